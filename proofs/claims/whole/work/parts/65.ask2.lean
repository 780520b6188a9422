/-! what is asked: at, line, pieces, solo, tallest, missed, most -/
section ASK2
variable {S Sc Sm : S2} {n z nl r B : Int} {s pl : Int → Int}
theorem at0_loop (hM : MPk S n s z) (h0 : 1 ≤ n) (hn : n ≤ 48) (hb : CvB n s) {p : Int} (hp : 0 ≤ p ∧ p < 48) : ∀ (d N : Nat) (i : Int), 0 ≤ i → i + d = pkC n s → d < N → f_X11_at_25 N p 0 i S = some (fiF (fun k => qP n s k = p) d i, S) := by
  have pf := (pk_facts h0 hn hb).1
  have e0 := hM.1.1
  intro d
  induction d with
  | zero =>
    intro N i hi0 hi hN
    obtain ⟨N, rfl⟩ : ∃ M, N = M + 1 := ⟨N - 1, by omega⟩
    rw [f_X11_at_25]
    simp (disch := omega) only [e0, gI, uI, cI_of, aI_of, sI_of, mnI_of, mxI_of, abI_of, dvI_of, rmI_of, bI_of, bV_of, rI, rV, rL, rP, rT, rZ_of, rC_of, if_pos, if_neg, if_true, if_false]
    rfl
  | succ d ih =>
    intro N i hi0 hi hN
    obtain ⟨N, rfl⟩ : ∃ M, N = M + 1 := ⟨N - 1, by omega⟩
    have ep := placeM_of N hM h0 hn hb hi0 (by omega)
    have q := (q_in h0 hn hb hi0 (by omega : i < pkC n s)).1
    rw [fiF]
    by_cases g : qP n s i = p
    · rw [if_pos g, f_X11_at_25]
      simp (disch := omega) only [e0, ep, f_X11_at_84, gI, uI, cI_of, aI_of, sI_of, mnI_of, mxI_of, abI_of, dvI_of, rmI_of, bI_of, bV_of, rI, rV, rL, rP, rT, rZ_of, rC_of, if_pos, if_neg, if_true, if_false]
    · rw [if_neg g, ← ih N (i + 1) (by omega) (by omega) (by omega), f_X11_at_25]
      simp (disch := omega) only [e0, ep, f_X11_at_84, gI, uI, cI_of, aI_of, sI_of, mnI_of, mxI_of, abI_of, dvI_of, rmI_of, bI_of, bV_of, rI, rV, rL, rP, rT, rZ_of, rC_of, if_pos, if_neg, if_true, if_false]
theorem at1_loop (hc : CvM S 8 n s z) (hM : MPk S n s z) (h0 : 1 ≤ n) (hn : n ≤ 48) (hb : CvB n s) {p : Int} (hp : 0 ≤ p ∧ p < 48) : ∀ (d N : Nat) (i : Int), 0 ≤ i → i + d = pkC n s → d + 300 < N → f_X11_at_25 N p 1 i S = some (fiF (fun k => fsQ n s z k ≤ p ∧ p ≤ lsQ n s z k) (pkK n s z - i).toNat i, S) := by
  have pf := (pk_facts h0 hn hb).1
  have kk := pkK_in (z := z) h0 hn hb
  have e0 := hM.1.1
  intro d
  induction d with
  | zero =>
    intro N i hi0 hi hN
    obtain ⟨N, rfl⟩ : ∃ M, N = M + 1 := ⟨N - 1, by omega⟩
    rw [show (pkK n s z - i).toNat = 0 by omega, f_X11_at_25]
    simp (disch := omega) only [e0, gI, uI, cI_of, aI_of, sI_of, mnI_of, mxI_of, abI_of, dvI_of, rmI_of, bI_of, bV_of, rI, rV, rL, rP, rT, rZ_of, rC_of, if_pos, if_neg, if_true, if_false]
    rfl
  | succ d ih =>
    intro N i hi0 hi hN
    obtain ⟨N, rfl⟩ : ∃ M, N = M + 1 := ⟨N - 1, by omega⟩
    have ic : i < pkC n s := by omega
    have ek := isKept_of N hM h0 hn hb (by omega : -2147483648 ≤ i) (by omega : i ≤ 2147483647)
    have hi2 := ih N (i + 1) (by omega) (by omega) (by omega)
    by_cases g : i < pkK n s z
    · rw [if_pos ⟨hi0, g⟩] at ek
      obtain ⟨m, hm⟩ : ∃ m, (pkK n s z - i).toNat = m + 1 := ⟨(pkK n s z - i).toNat - 1, by omega⟩
      rw [hm, fiF]
      rw [show (pkK n s z - (i + 1)).toNat = m by omega] at hi2
      have e1 := firstOf_of N hc hM h0 hn hb hi0 ic (by omega)
      have e2 := lastOf_of N hc hM h0 hn hb hi0 ic (by omega)
      have f1 := fsQ_in (z := z) h0 hn hb hi0 ic
      have f2 := lsQ_in (z := z) h0 hn hb hi0 ic
      have q := (q_in h0 hn hb hi0 ic).1
      by_cases w : fsQ n s z i ≤ p ∧ p ≤ lsQ n s z i
      · rw [if_pos w, f_X11_at_25]
        simp (disch := omega) only [e0, ek, e1, e2, in_y N, f_X11_at_84, gI, uI, cI_of, aI_of, sI_of, mnI_of, mxI_of, abI_of, dvI_of, rmI_of, bI_of, bV_of, rI, rV, rL, rP, rT, rZ_of, rC_of, if_pos, if_neg, if_true, if_false]
      · rw [if_neg w, ← hi2, f_X11_at_25]
        simp (disch := omega) only [e0, ek, e1, e2, in_n N, f_X11_at_83, f_X11_at_84, gI, uI, cI_of, aI_of, sI_of, mnI_of, mxI_of, abI_of, dvI_of, rmI_of, bI_of, bV_of, rI, rV, rL, rP, rT, rZ_of, rC_of, if_pos, if_neg, if_true, if_false]
    · rw [if_neg (by omega)] at ek
      rw [show (pkK n s z - i).toNat = 0 by omega]
      rw [show (pkK n s z - (i + 1)).toNat = 0 by omega] at hi2
      show _ = some (fiF (fun k => fsQ n s z k ≤ p ∧ p ≤ lsQ n s z k) 0 (i + 1), S)
      rw [← hi2, f_X11_at_25]
      simp (disch := omega) only [e0, ek, f_X11_at_83, f_X11_at_84, gI, uI, cI_of, aI_of, sI_of, mnI_of, mxI_of, abI_of, dvI_of, rmI_of, bI_of, bV_of, rI, rV, rL, rP, rT, rZ_of, rC_of, if_pos, if_neg, if_true, if_false]
theorem at_both (N M : Nat) (hN : 2000 ≤ N) (hM : 2000 ≤ M) (hB : B ≤ 50000) (H : RelB B Sc Sm) {a1 a2 : Int} (h1 : inR a1) (h2 : inR a2) : ∃ (v : Int) (Sc' Sm' : S2), f_X10_at N Sc a1 a2 = some (v, Sc') ∧ f_X11_at M Sm a1 a2 = some (v, Sm') ∧ RelB (B + 40) Sc' Sm' := by
  obtain ⟨-, -, -, ⟨n, z, s, cur, -⟩, ⟨nl, r, pl, ln⟩, -⟩ := id H
  have i29 := cur.2.2.2.2.2.1
  have ha1 := h2.1
  have ha2 := h2.2
  obtain ⟨⟨n0, n48⟩, hb, hz, hc, hm, hi, hP, -⟩ := id cur
  by_cases g : 0 ≤ a1 ∧ a1 < n
  · have n1 : 1 ≤ n := by omega
    rw [if_neg (by omega)] at i29
    have hP := hP n1
    obtain ⟨Sm1, e1, e2, e3, e4, e5, e6⟩ := finds_rel M cur n1 ln (by omega)
    have pf := (pk_facts n1 n48 hb).1
    have kk := pkK_in (z := z) n1 n48 hb
    by_cases g0 : a2 = 0
    · have ec := beginAt_of N hP n1 n48 hb (p := a1) (by omega) (by omega)
      have em := at0_loop e2 n1 n48 hb (p := a1) (by omega) (pkC n s).toNat M 0 (by omega) (by omega) (by omega)
      refine ⟨fiF (fun k => qP n s k = a1) (pkC n s).toNat 0, Sc, Sm1, ?_, ?_, (H.keep KC.refl e6).up (by omega)⟩
      · unfold f_X10_at
        rw [has_y N hc n48 g.1 g.2]
        simp (disch := omega) only [ec, gI, uI, cI_of, aI_of, sI_of, mnI_of, mxI_of, abI_of, dvI_of, rmI_of, bI_of, bV_of, rI, rV, rL, rP, rT, rZ_of, rC_of, if_pos, if_neg, if_true, if_false]
      · unfold f_X11_at
        rw [isPlace_y M hm i29 n48 g.1 g.2, g0]
        simp (disch := omega) only [in_y M, e1, gI, uI, cI_of, aI_of, sI_of, mnI_of, mxI_of, abI_of, dvI_of, rmI_of, bI_of, bV_of, rI, rV, rL, rP, rT, rZ_of, rC_of, if_pos, if_neg, if_true, if_false]
        exact em
    · by_cases g1 : a2 = 1
      · have ec := withBasin_of N hc hP n1 n48 hb (p := a1) (by omega) (by omega)
        have em := at1_loop e4 e2 n1 n48 hb (p := a1) (by omega) (pkC n s).toNat M 0 (by omega) (by omega) (by omega)
        rw [show (pkK n s z - 0).toNat = (pkK n s z).toNat by omega] at em
        refine ⟨fiF (fun k => fsQ n s z k ≤ a1 ∧ a1 ≤ lsQ n s z k) (pkK n s z).toNat 0, Sc, Sm1, ?_, ?_, (H.keep KC.refl e6).up (by omega)⟩
        · unfold f_X10_at
          rw [has_y N hc n48 g.1 g.2]
          simp (disch := omega) only [ec, gI, uI, cI_of, aI_of, sI_of, mnI_of, mxI_of, abI_of, dvI_of, rmI_of, bI_of, bV_of, rI, rV, rL, rP, rT, rZ_of, rC_of, if_pos, if_neg, if_true, if_false]
        · unfold f_X11_at
          rw [isPlace_y M hm i29 n48 g.1 g.2, g1]
          simp (disch := omega) only [in_y M, e1, gI, uI, cI_of, aI_of, sI_of, mnI_of, mxI_of, abI_of, dvI_of, rmI_of, bI_of, bV_of, rI, rV, rL, rP, rT, rZ_of, rC_of, if_pos, if_neg, if_true, if_false]
          exact em
      · refine ⟨-1, Sc, Sm, ?_, ?_, H.up (by omega)⟩
        · unfold f_X10_at
          rw [has_y N hc n48 g.1 g.2]
          simp (disch := omega) only [gI, uI, cI_of, aI_of, sI_of, mnI_of, mxI_of, abI_of, dvI_of, rmI_of, bI_of, bV_of, rI, rV, rL, rP, rT, rZ_of, rC_of, if_pos, if_neg, if_true, if_false]
        · unfold f_X11_at
          rw [isPlace_y M hm i29 n48 g.1 g.2]
          simp (disch := omega) only [in_n M, gI, uI, cI_of, aI_of, sI_of, mnI_of, mxI_of, abI_of, dvI_of, rmI_of, bI_of, bV_of, rI, rV, rL, rP, rT, rZ_of, rC_of, if_pos, if_neg, if_true, if_false]
  · refine ⟨-1, Sc, Sm, ?_, ?_, H.up (by omega)⟩
    · unfold f_X10_at
      rw [has_n N hc n0 n48 h1.1 h1.2 (by omega)]
      simp (disch := omega) only [gI, uI, cI_of, aI_of, sI_of, mnI_of, mxI_of, abI_of, dvI_of, rmI_of, bI_of, bV_of, rI, rV, rL, rP, rT, rZ_of, rC_of, if_pos, if_neg, if_true, if_false]
    · unfold f_X11_at
      by_cases g0 : n = 0
      · rw [if_pos g0] at i29
        rw [isPlace_0 M i29]
        simp (disch := omega) only [gI, uI, cI_of, aI_of, sI_of, mnI_of, mxI_of, abI_of, dvI_of, rmI_of, bI_of, bV_of, rI, rV, rL, rP, rT, rZ_of, rC_of, if_pos, if_neg, if_true, if_false]
      · rw [if_neg g0] at i29
        rw [isPlace_n M hm i29 n0 n48 h1.1 h1.2 (by omega)]
        simp (disch := omega) only [gI, uI, cI_of, aI_of, sI_of, mnI_of, mxI_of, abI_of, dvI_of, rmI_of, bI_of, bV_of, rI, rV, rL, rP, rT, rZ_of, rC_of, if_pos, if_neg, if_true, if_false]
theorem op_at (hB : B ≤ 50000) : Op_at (RelB B) (RelB (B + 40)) := fun Sc Sm H a1 a2 h1 h2 => ⟨2000, 2000, at_both 2000 2000 (by decide) (by decide) hB H h1 h2⟩
theorem line_both (N M : Nat) (hN : 2000 ≤ N) (hM : 2000 ≤ M) (hB : B ≤ 50000) (H : RelB B Sc Sm) {a1 a2 : Int} (h1 : inR a1) (h2 : inR a2) : ∃ (v : Int) (Sc' Sm' : S2), f_X10_line N Sc a1 a2 = some (v, Sc') ∧ f_X11_line M Sm a1 a2 = some (v, Sm') ∧ RelB (B + 40) Sc' Sm' := by
  obtain ⟨-, -, -, ⟨n, z, s, cur, hl0⟩, ⟨nl, r, pl, ln⟩, -⟩ := id H
  have i29 := cur.2.2.2.2.2.1
  have hb1 := h1.1
  have hb2 := h1.2
  have ha1 := h2.1
  have ha2 := h2.2
  obtain ⟨⟨n0, n48⟩, hb, hz, hc, hm, hi, hP, -⟩ := id cur
  obtain ⟨hLB, hLC, hLM, hNm⟩ := id ln
  obtain ⟨⟨l0, l8⟩, -, -⟩ := id hLB
  have e20 := hLC.1
  have e27 := hLM.1
  by_cases g : 0 ≤ a1 ∧ a1 < nl
  · have n1 : 1 ≤ n := hl0 (Or.inr (Or.inr (by omega)))
    rw [if_neg (by omega)] at i29
    have hP := hP n1
    obtain ⟨Sm1, e1, e2, e3, e4, e5, e6⟩ := finds_rel M cur n1 ln (by omega)
    by_cases g0 : a2 = 0
    · have ec := hLC.2.2 a1 g.1 g.2
      have em := e5.2.2 a1 g.1 g.2
      refine ⟨pl a1, Sc, Sm1, ?_, ?_, (H.keep KC.refl e6).up (by omega)⟩
      · unfold f_X10_line
        simp (disch := omega) only [e20, ec, gI, uI, cI_of, aI_of, sI_of, mnI_of, mxI_of, abI_of, dvI_of, rmI_of, bI_of, bV_of, rI, rV, rL, rP, rT, rZ_of, rC_of, if_pos, if_neg, if_true, if_false]
      · unfold f_X11_line
        simp (disch := omega) only [i29, e27, in_y M, e1, em, gI, uI, cI_of, aI_of, sI_of, mnI_of, mxI_of, abI_of, dvI_of, rmI_of, bI_of, bV_of, rI, rV, rL, rP, rT, rZ_of, rC_of, if_pos, if_neg, if_true, if_false]
    · by_cases g1 : a2 = 1
      · obtain ⟨Sc1, c1, c2, c3⟩ := matchC_of N hLB n1 n48 hb (by_ := 0) (by omega) hLC hP (by omega)
        have ec := c2 a1 g.1 g.2
        have em := e3.1 a1 g.1 (by omega)
        refine ⟨mtF n s z nl pl r 0 a1, Sc1, Sm1, ?_, ?_, (H.keep (KC.of c3 (fun j q => by have q : j = 23 := q; show j = 1 ∨ j = 19 ∨ j = 23 ∨ (54 ≤ j ∧ j ≤ 73) ∨ (75 ≤ j ∧ j ≤ 81); omega)) e6).up (by omega)⟩
        · unfold f_X10_line
          simp (disch := omega) only [e20, c1, ec, gI, uI, cI_of, aI_of, sI_of, mnI_of, mxI_of, abI_of, dvI_of, rmI_of, bI_of, bV_of, rI, rV, rL, rP, rT, rZ_of, rC_of, if_pos, if_neg, if_true, if_false]
        · unfold f_X11_line
          simp (disch := omega) only [i29, e27, in_y M, e1, em, gI, uI, cI_of, aI_of, sI_of, mnI_of, mxI_of, abI_of, dvI_of, rmI_of, bI_of, bV_of, rI, rV, rL, rP, rT, rZ_of, rC_of, if_pos, if_neg, if_true, if_false]
      · by_cases g2 : a2 = 2
        · have em : Sm1.1 11 a1 = Sc.1 22 a1 := by rw [e6.1 11 (by omega)]; exact (hNm a1 g.1 g.2).1
          refine ⟨Sc.1 22 a1, Sc, Sm1, ?_, ?_, (H.keep KC.refl e6).up (by omega)⟩
          · unfold f_X10_line
            simp (disch := omega) only [e20, gI, uI, cI_of, aI_of, sI_of, mnI_of, mxI_of, abI_of, dvI_of, rmI_of, bI_of, bV_of, rI, rV, rL, rP, rT, rZ_of, rC_of, if_pos, if_neg, if_true, if_false]
          · unfold f_X11_line
            simp (disch := omega) only [i29, e27, in_y M, e1, em, gI, uI, cI_of, aI_of, sI_of, mnI_of, mxI_of, abI_of, dvI_of, rmI_of, bI_of, bV_of, rI, rV, rL, rP, rT, rZ_of, rC_of, if_pos, if_neg, if_true, if_false]
        · refine ⟨-1, Sc, Sm, ?_, ?_, H.up (by omega)⟩
          · unfold f_X10_line
            simp (disch := omega) only [e20, gI, uI, cI_of, aI_of, sI_of, mnI_of, mxI_of, abI_of, dvI_of, rmI_of, bI_of, bV_of, rI, rV, rL, rP, rT, rZ_of, rC_of, if_pos, if_neg, if_true, if_false]
          · unfold f_X11_line
            simp (disch := omega) only [i29, e27, in_y M, in_n M, gI, uI, cI_of, aI_of, sI_of, mnI_of, mxI_of, abI_of, dvI_of, rmI_of, bI_of, bV_of, rI, rV, rL, rP, rT, rZ_of, rC_of, if_pos, if_neg, if_true, if_false]
  · refine ⟨-1, Sc, Sm, ?_, ?_, H.up (by omega)⟩
    · unfold f_X10_line
      by_cases q : a1 < 0
      · simp (disch := omega) only [gI, uI, cI_of, aI_of, sI_of, mnI_of, mxI_of, abI_of, dvI_of, rmI_of, bI_of, bV_of, rI, rV, rL, rP, rT, rZ_of, rC_of, if_pos, if_neg, if_true, if_false]
      · simp (disch := omega) only [e20, gI, uI, cI_of, aI_of, sI_of, mnI_of, mxI_of, abI_of, dvI_of, rmI_of, bI_of, bV_of, rI, rV, rL, rP, rT, rZ_of, rC_of, if_pos, if_neg, if_true, if_false]
    · unfold f_X11_line
      by_cases g0 : n = 0
      · rw [if_pos g0] at i29
        simp (disch := omega) only [i29, gI, uI, cI_of, aI_of, sI_of, mnI_of, mxI_of, abI_of, dvI_of, rmI_of, bI_of, bV_of, rI, rV, rL, rP, rT, rZ_of, rC_of, if_pos, if_neg, if_true, if_false]
      · rw [if_neg g0] at i29
        simp (disch := omega) only [i29, e27, in_n M, gI, uI, cI_of, aI_of, sI_of, mnI_of, mxI_of, abI_of, dvI_of, rmI_of, bI_of, bV_of, rI, rV, rL, rP, rT, rZ_of, rC_of, if_pos, if_neg, if_true, if_false]
theorem op_line (hB : B ≤ 50000) : Op_line (RelB B) (RelB (B + 40)) := fun Sc Sm H a1 a2 h1 h2 => ⟨2000, 2000, line_both 2000 2000 (by decide) (by decide) hB H h1 h2⟩
/-- how often a run of samples no less than h begins -/
def pcF (s : Int → Int) (h : Int) (d : Nat) (i a : Int) : Int := fld (fun a i => if h ≤ s i ∧ (i = 0 ∨ s (i - 1) < h) then a + 1 else a) d i a
theorem piecesC_loop (hc : CvC S 4 n s z) (hn : n ≤ 48) (hb : CvB n s) {h : Int} (hh : 0 ≤ h ∧ h ≤ 999) : ∀ (d N : Nat) (i a x : Int), 0 ≤ i → i + d = n → d < N → x = (if i = 0 then 0 else if s (i - 1) < h then 0 else 1) → f_X10_pieces_27 N h a x i S = some (pcF s h d i a, S) := by
  have e1 := hc.1
  intro d
  induction d with
  | zero =>
    intro N i a x h0 hi hN hx
    obtain ⟨N, rfl⟩ : ∃ M, N = M + 1 := ⟨N - 1, by omega⟩
    rw [f_X10_pieces_27]
    simp (disch := omega) only [e1, gI, uI, cI_of, aI_of, sI_of, mnI_of, mxI_of, abI_of, dvI_of, rmI_of, bI_of, bV_of, rI, rV, rL, rP, rT, rZ_of, rC_of, if_pos, if_neg, if_true, if_false]
    rfl
  | succ d ih =>
    intro N i a x h0 hi hN hx
    obtain ⟨N, rfl⟩ : ∃ M, N = M + 1 := ⟨N - 1, by omega⟩
    have es := hc.2.2 i h0 (by omega)
    have bs := hb i h0 (by omega)
    have e : pcF s h (d + 1) i a = pcF s h d (i + 1) (if h ≤ s i ∧ (i = 0 ∨ s (i - 1) < h) then a + 1 else a) := rfl
    have hx01 : x = 0 ∨ x = 1 := by
      rw [hx]
      by_cases q : i = 0
      · rw [if_pos q]; exact Or.inl rfl
      · rw [if_neg q]
        by_cases w : s (i - 1) < h
        · rw [if_pos w]; exact Or.inl rfl
        · rw [if_neg w]; exact Or.inr rfl
    have hxi : x = 0 ↔ (i = 0 ∨ s (i - 1) < h) := by
      rw [hx]
      by_cases q : i = 0
      · rw [if_pos q]; exact ⟨fun _ => Or.inl q, fun _ => rfl⟩
      · rw [if_neg q]
        by_cases w : s (i - 1) < h
        · rw [if_pos w]; exact ⟨fun _ => Or.inr w, fun _ => rfl⟩
        · rw [if_neg w]; exact ⟨fun y => by omega, fun y => absurd y (fun y => y.elim q w)⟩
    have nx : ∀ y : Int, y = (if s i < h then 0 else 1) → y = (if i + 1 = 0 then 0 else if s (i + 1 - 1) < h then 0 else 1) := fun y hy => by
      rw [if_neg (by omega), show i + 1 - 1 = i by omega]; exact hy
    rw [e]
    by_cases g : s i < h
    · rw [if_neg (by omega), ← ih N (i + 1) a 0 (by omega) (by omega) (by omega) (nx 0 (by rw [if_pos g])), f_X10_pieces_27]
      simp (disch := omega) only [e1, es, f_X10_pieces_58, f_X10_pieces_72, gI, uI, cI_of, aI_of, sI_of, mnI_of, mxI_of, abI_of, dvI_of, rmI_of, bI_of, bV_of, rI, rV, rL, rP, rT, rZ_of, rC_of, if_pos, if_neg, if_true, if_false]
    · by_cases w : x = 0
      · rw [if_pos ⟨by omega, hxi.mp w⟩, ← ih N (i + 1) (a + 1) 1 (by omega) (by omega) (by omega) (nx 1 (by rw [if_neg g])), f_X10_pieces_27]
        simp (disch := omega) only [e1, es, f_X10_pieces_58, f_X10_pieces_72, gI, uI, cI_of, aI_of, sI_of, mnI_of, mxI_of, abI_of, dvI_of, rmI_of, bI_of, bV_of, rI, rV, rL, rP, rT, rZ_of, rC_of, if_pos, if_neg, if_true, if_false]
      · rw [if_neg (fun y => w (hxi.mpr y.2)), ← ih N (i + 1) a 1 (by omega) (by omega) (by omega) (nx 1 (by rw [if_neg g])), f_X10_pieces_27]
        simp (disch := omega) only [e1, es, f_X10_pieces_58, f_X10_pieces_72, gI, uI, cI_of, aI_of, sI_of, mnI_of, mxI_of, abI_of, dvI_of, rmI_of, bI_of, bV_of, rI, rV, rL, rP, rT, rZ_of, rC_of, if_pos, if_neg, if_true, if_false]
theorem piecesM_loop (hc : CvM S 8 n s z) (hn : n ≤ 48) (hb : CvB n s) {h : Int} (hh : 0 ≤ h ∧ h ≤ 999) : ∀ (d N : Nat) (i a : Int), 0 ≤ i → i + d = n → d < N → f_X11_pieces_24 N h a i S = some (pcF s h d i a, S) := by
  intro d
  induction d with
  | zero =>
    intro N i a h0 hi hN
    obtain ⟨N, rfl⟩ : ∃ M, N = M + 1 := ⟨N - 1, by omega⟩
    rw [f_X11_pieces_24]
    simp (disch := omega) only [many_of N hc, gI, uI, cI_of, aI_of, sI_of, mnI_of, mxI_of, abI_of, dvI_of, rmI_of, bI_of, bV_of, rI, rV, rL, rP, rT, rZ_of, rC_of, if_pos, if_neg, if_true, if_false]
    rfl
  | succ d ih =>
    intro N i a h0 hi hN
    obtain ⟨N, rfl⟩ : ∃ M, N = M + 1 := ⟨N - 1, by omega⟩
    have es := hc.2.2 i h0 (by omega)
    have bs := hb i h0 (by omega)
    have e : pcF s h (d + 1) i a = pcF s h d (i + 1) (if h ≤ s i ∧ (i = 0 ∨ s (i - 1) < h) then a + 1 else a) := rfl
    rw [e]
    by_cases g : s i < h
    · rw [if_neg (by omega), ← ih N (i + 1) a (by omega) (by omega) (by omega), f_X11_pieces_24]
      simp (disch := omega) only [many_of N hc, es, f_X11_pieces_63, f_X11_pieces_64, gI, uI, cI_of, aI_of, sI_of, mnI_of, mxI_of, abI_of, dvI_of, rmI_of, bI_of, bV_of, rI, rV, rL, rP, rT, rZ_of, rC_of, if_pos, if_neg, if_true, if_false]
      rw [Int.add_zero]
    · by_cases w : i = 0
      · rw [if_pos ⟨by omega, Or.inl w⟩, ← ih N (i + 1) (a + 1) (by omega) (by omega) (by omega), f_X11_pieces_24]
        simp (disch := omega) only [many_of N hc, es, f_X11_pieces_59, f_X11_pieces_64, gI, uI, cI_of, aI_of, sI_of, mnI_of, mxI_of, abI_of, dvI_of, rmI_of, bI_of, bV_of, rI, rV, rL, rP, rT, rZ_of, rC_of, if_pos, if_neg, if_true, if_false]
      · have es2 := hc.2.2 (i - 1) (by omega) (by omega)
        have bs2 := hb (i - 1) (by omega) (by omega)
        by_cases y : s (i - 1) < h
        · rw [if_pos ⟨by omega, Or.inr y⟩, ← ih N (i + 1) (a + 1) (by omega) (by omega) (by omega), f_X11_pieces_24]
          simp (disch := omega) only [many_of N hc, es, es2, f_X11_pieces_59, f_X11_pieces_64, gI, uI, cI_of, aI_of, sI_of, mnI_of, mxI_of, abI_of, dvI_of, rmI_of, bI_of, bV_of, rI, rV, rL, rP, rT, rZ_of, rC_of, if_pos, if_neg, if_true, if_false]
        · rw [if_neg (fun u => u.2.elim w y), ← ih N (i + 1) a (by omega) (by omega) (by omega), f_X11_pieces_24]
          simp (disch := omega) only [many_of N hc, es, es2, f_X11_pieces_63, f_X11_pieces_64, gI, uI, cI_of, aI_of, sI_of, mnI_of, mxI_of, abI_of, dvI_of, rmI_of, bI_of, bV_of, rI, rV, rL, rP, rT, rZ_of, rC_of, if_pos, if_neg, if_true, if_false]
          rw [Int.add_zero]
theorem pieces_both (N M : Nat) (hN : 2000 ≤ N) (hM : 2000 ≤ M) (hB : B ≤ 50000) (H : RelB B Sc Sm) {a1 : Int} (h1 : inR a1) : ∃ (v : Int) (Sc' Sm' : S2), f_X10_pieces N Sc a1 = some (v, Sc') ∧ f_X11_pieces M Sm a1 = some (v, Sm') ∧ RelB (B + 40) Sc' Sm' := by
  obtain ⟨-, -, -, ⟨n, z, s, cur, -⟩, -⟩ := id H
  have i29 := cur.2.2.2.2.2.1
  have ha1 := h1.1
  have ha2 := h1.2
  obtain ⟨⟨n0, n48⟩, hb, hz, hc, hm, hi, hP, -⟩ := id cur
  by_cases g0 : n = 0
  · rw [if_pos g0] at i29
    refine ⟨-1, Sc, Sm, ?_, ?_, H.up (by omega)⟩
    · unfold f_X10_pieces
      rw [noTrace_y _ cur g0]
      simp (disch := omega) only [gI, uI, cI_of, aI_of, sI_of, mnI_of, mxI_of, abI_of, dvI_of, rmI_of, bI_of, bV_of, rI, rV, rL, rP, rT, rZ_of, rC_of, if_pos, if_neg, if_true, if_false]
    · unfold f_X11_pieces
      simp (disch := omega) only [i29, gI, uI, cI_of, aI_of, sI_of, mnI_of, mxI_of, abI_of, dvI_of, rmI_of, bI_of, bV_of, rI, rV, rL, rP, rT, rZ_of, rC_of, if_pos, if_neg, if_true, if_false]
  · rw [if_neg g0] at i29
    by_cases gr : 0 ≤ a1 ∧ a1 ≤ 999
    · have ec := piecesC_loop hc n48 hb gr n.toNat N 0 0 0 (by omega) (by omega) (by omega) (by rw [if_pos rfl])
      have em := piecesM_loop hm n48 hb gr n.toNat M 0 0 (by omega) (by omega) (by omega)
      refine ⟨pcF s a1 n.toNat 0 0, Sc, Sm, ?_, ?_, H.up (by omega)⟩
      · unfold f_X10_pieces
        rw [noTrace_n _ cur (by omega)]
        simp (disch := omega) only [ec, gI, uI, cI_of, aI_of, sI_of, mnI_of, mxI_of, abI_of, dvI_of, rmI_of, bI_of, bV_of, rI, rV, rL, rP, rT, rZ_of, rC_of, if_pos, if_neg, if_true, if_false]
      · unfold f_X11_pieces
        simp (disch := omega) only [i29, in_y M, em, gI, uI, cI_of, aI_of, sI_of, mnI_of, mxI_of, abI_of, dvI_of, rmI_of, bI_of, bV_of, rI, rV, rL, rP, rT, rZ_of, rC_of, if_pos, if_neg, if_true, if_false]
    · refine ⟨-1, Sc, Sm, ?_, ?_, H.up (by omega)⟩
      · unfold f_X10_pieces
        rw [noTrace_n _ cur (by omega)]
        by_cases q : a1 < 0
        · simp (disch := omega) only [gI, uI, cI_of, aI_of, sI_of, mnI_of, mxI_of, abI_of, dvI_of, rmI_of, bI_of, bV_of, rI, rV, rL, rP, rT, rZ_of, rC_of, if_pos, if_neg, if_true, if_false]
        · simp (disch := omega) only [gI, uI, cI_of, aI_of, sI_of, mnI_of, mxI_of, abI_of, dvI_of, rmI_of, bI_of, bV_of, rI, rV, rL, rP, rT, rZ_of, rC_of, if_pos, if_neg, if_true, if_false]
      · unfold f_X11_pieces
        simp (disch := omega) only [i29, in_n M, gI, uI, cI_of, aI_of, sI_of, mnI_of, mxI_of, abI_of, dvI_of, rmI_of, bI_of, bV_of, rI, rV, rL, rP, rT, rZ_of, rC_of, if_pos, if_neg, if_true, if_false]
theorem op_pieces (hB : B ≤ 50000) : Op_pieces (RelB B) (RelB (B + 40)) := fun Sc Sm H a1 h1 => ⟨2000, 2000, pieces_both 2000 2000 (by decide) (by decide) hB H h1⟩
theorem soloC_loop (hP : CP S 6 n s z) (h0 : 1 ≤ n) (hn : n ≤ 48) (hb : CvB n s) : ∀ (d N : Nat) (i a : Int), 1 ≤ i → i + d = pkC n s → d < N → (a = -1 ∨ (0 ≤ a ∧ a < i)) → f_X10_solo_4 N a i S = some (tlF (qH n s) (fun k => 0 < k) d i a, S) := by
  have pf := (pk_facts h0 hn hb).1
  have e0 := hP.1
  intro d
  induction d with
  | zero =>
    intro N i a hi0 hi hN ha
    obtain ⟨N, rfl⟩ : ∃ M, N = M + 1 := ⟨N - 1, by omega⟩
    rw [f_X10_solo_4]
    simp (disch := omega) only [e0, gI, uI, cI_of, aI_of, sI_of, mnI_of, mxI_of, abI_of, dvI_of, rmI_of, bI_of, bV_of, rI, rV, rL, rP, rT, rZ_of, rC_of, if_pos, if_neg, if_true, if_false]
    rfl
  | succ d ih =>
    intro N i a hi0 hi hN ha
    obtain ⟨N, rfl⟩ : ∃ M, N = M + 1 := ⟨N - 1, by omega⟩
    have ic : i < pkC n s := by omega
    have q := q_in h0 hn hb (by omega : 0 ≤ i) ic
    have eh : f_X5_heightOf N S 6 i = some (qH n s i, S) := heightC_of N hP h0 hn hb (by omega) ic
    have e : tlF (qH n s) (fun k => 0 < k) (d + 1) i a = tlF (qH n s) (fun k => 0 < k) d (i + 1) (if 0 < i ∧ (a = -1 ∨ qH n s a < qH n s i) then i else a) := rfl
    rw [e]
    by_cases x : a = -1
    · rw [if_pos ⟨by omega, Or.inl x⟩, ← ih N (i + 1) i (by omega) (by omega) (by omega) (by omega), f_X10_solo_4]
      simp (disch := omega) only [e0, f_X10_solo_39, f_X10_solo_41, gI, uI, cI_of, aI_of, sI_of, mnI_of, mxI_of, abI_of, dvI_of, rmI_of, bI_of, bV_of, rI, rV, rL, rP, rT, rZ_of, rC_of, if_pos, if_neg, if_true, if_false]
    · have ea : f_X5_heightOf N S 6 a = some (qH n s a, S) := heightC_of N hP h0 hn hb (by omega) (by omega)
      have qa := q_in h0 hn hb (by omega : 0 ≤ a) (by omega : a < pkC n s)
      by_cases y : qH n s i ≤ qH n s a
      · rw [if_neg (by omega), ← ih N (i + 1) a (by omega) (by omega) (by omega) (by omega), f_X10_solo_4]
        simp (disch := omega) only [e0, eh, ea, f_X10_solo_39, f_X10_solo_41, gI, uI, cI_of, aI_of, sI_of, mnI_of, mxI_of, abI_of, dvI_of, rmI_of, bI_of, bV_of, rI, rV, rL, rP, rT, rZ_of, rC_of, if_pos, if_neg, if_true, if_false]
      · rw [if_pos (by omega), ← ih N (i + 1) i (by omega) (by omega) (by omega) (by omega), f_X10_solo_4]
        simp (disch := omega) only [e0, eh, ea, f_X10_solo_39, f_X10_solo_41, gI, uI, cI_of, aI_of, sI_of, mnI_of, mxI_of, abI_of, dvI_of, rmI_of, bI_of, bV_of, rI, rV, rL, rP, rT, rZ_of, rC_of, if_pos, if_neg, if_true, if_false]
theorem solo_both (N M : Nat) (hN : 2000 ≤ N) (hM : 2000 ≤ M) (hB : B ≤ 50000) (H : RelB B Sc Sm) : ∃ (v : Int) (Sc' Sm' : S2), f_X10_solo N Sc = some (v, Sc') ∧ f_X11_solo M Sm = some (v, Sm') ∧ RelB (B + 40) Sc' Sm' := by
  obtain ⟨-, -, -, ⟨n, z, s, cur, -⟩, ⟨nl, r, pl, ln⟩, -⟩ := id H
  have i29 := cur.2.2.2.2.2.1
  obtain ⟨⟨n0, n48⟩, hb, hz, hc, hm, hi, hP, hQ⟩ := id cur
  by_cases g0 : n = 0
  · rw [if_pos g0] at i29
    have e0 := (hQ g0).1
    refine ⟨-1, Sc, Sm, ?_, ?_, H.up (by omega)⟩
    · unfold f_X10_solo
      obtain ⟨N, rfl⟩ : ∃ M, N = M + 1 := ⟨N - 1, by omega⟩
      rw [f_X10_solo_4]
      simp (disch := omega) only [e0, gI, uI, cI_of, aI_of, sI_of, mnI_of, mxI_of, abI_of, dvI_of, rmI_of, bI_of, bV_of, rI, rV, rL, rP, rT, rZ_of, rC_of, if_pos, if_neg, if_true, if_false]
    · unfold f_X11_solo
      simp (disch := omega) only [i29, gI, uI, cI_of, aI_of, sI_of, mnI_of, mxI_of, abI_of, dvI_of, rmI_of, bI_of, bV_of, rI, rV, rL, rP, rT, rZ_of, rC_of, if_pos, if_neg, if_true, if_false]
  · rw [if_neg g0] at i29
    have n1 : 1 ≤ n := by omega
    have hP := hP n1
    have pf := (pk_facts n1 n48 hb).1
    obtain ⟨Sm1, e1, e2, e3, e4, e5, e6⟩ := finds_rel M cur n1 ln (by omega)
    have ec := soloC_loop hP n1 n48 hb ((pkC n s).toNat - 1) N 1 (-1) (by omega) (by omega) (by omega) (Or.inl rfl)
    have em := tallestOf_loop e4 e2 n1 n48 hb (g := -1) (by omega) (fun k => 0 < k) (fun k a b => by rw [if_pos rfl]) (pkC n s).toNat M 0 (-1) (by omega) (by omega) (by omega) (Or.inl rfl)
    have es : tlF (qH n s) (fun k => 0 < k) (pkC n s).toNat 0 (-1) = tlF (qH n s) (fun k => 0 < k) ((pkC n s).toNat - 1) 1 (-1) := by
      obtain ⟨m, hm⟩ : ∃ m, (pkC n s).toNat = m + 1 := ⟨(pkC n s).toNat - 1, by omega⟩
      rw [hm, show m + 1 - 1 = m by omega]
      show tlF (qH n s) (fun k => 0 < k) m (0 + 1) (if (0 : Int) < 0 ∧ ((-1 : Int) = -1 ∨ qH n s (-1) < qH n s 0) then 0 else -1) = _
      rw [if_neg (fun y => absurd y.1 (by decide)), show (0 : Int) + 1 = 1 by omega]
    rw [es] at em
    refine ⟨_, Sc, Sm1, ec, ?_, (H.keep KC.refl e6).up (by omega)⟩
    unfold f_X11_solo f_X11_tallestOf
    simp (disch := omega) only [i29, e1, em, gI, uI, cI_of, aI_of, sI_of, mnI_of, mxI_of, abI_of, dvI_of, rmI_of, bI_of, bV_of, rI, rV, rL, rP, rT, rZ_of, rC_of, if_pos, if_neg, if_true, if_false]
theorem op_solo (hB : B ≤ 50000) : Op_solo (RelB B) (RelB (B + 40)) := fun Sc Sm H => ⟨2000, 2000, solo_both 2000 2000 (by decide) (by decide) hB H⟩
theorem tallestC_loop (hP : CP S 6 n s z) (h0 : 1 ≤ n) (hn : n ≤ 48) (hb : CvB n s) {g : Int} (hg : inR g) : ∀ (d N : Nat) (i a : Int), 0 ≤ i → i + d = pkC n s → d < N → (a = -1 ∨ (0 ≤ a ∧ a < i)) → f_X10_tallest_4 N g a i S = some (tlF (qH n s) (fun k => qG n s k = g) d i a, S) := by
  have pf := (pk_facts h0 hn hb).1
  have e0 := hP.1
  have g1 := hg.1
  have g2 := hg.2
  intro d
  induction d with
  | zero =>
    intro N i a hi0 hi hN ha
    obtain ⟨N, rfl⟩ : ∃ M, N = M + 1 := ⟨N - 1, by omega⟩
    rw [f_X10_tallest_4]
    simp (disch := omega) only [e0, gI, uI, cI_of, aI_of, sI_of, mnI_of, mxI_of, abI_of, dvI_of, rmI_of, bI_of, bV_of, rI, rV, rL, rP, rT, rZ_of, rC_of, if_pos, if_neg, if_true, if_false]
    rfl
  | succ d ih =>
    intro N i a hi0 hi hN ha
    obtain ⟨N, rfl⟩ : ∃ M, N = M + 1 := ⟨N - 1, by omega⟩
    have ic : i < pkC n s := by omega
    have q := q_in h0 hn hb hi0 ic
    have eh : f_X5_heightOf N S 6 i = some (qH n s i, S) := heightC_of N hP h0 hn hb hi0 ic
    have eg : f_X5_generationOf N S 6 i = some (qG n s i, S) := genC_of N hP h0 hn hb hi0 ic
    have e : tlF (qH n s) (fun k => qG n s k = g) (d + 1) i a = tlF (qH n s) (fun k => qG n s k = g) d (i + 1) (if qG n s i = g ∧ (a = -1 ∨ qH n s a < qH n s i) then i else a) := rfl
    rw [e]
    by_cases k : qG n s i = g
    · by_cases x : a = -1
      · rw [if_pos ⟨k, Or.inl x⟩, ← ih N (i + 1) i (by omega) (by omega) (by omega) (by omega), f_X10_tallest_4]
        simp (disch := omega) only [e0, eg, f_X10_tallest_51, f_X10_tallest_53, gI, uI, cI_of, aI_of, sI_of, mnI_of, mxI_of, abI_of, dvI_of, rmI_of, bI_of, bV_of, rI, rV, rL, rP, rT, rZ_of, rC_of, if_pos, if_neg, if_true, if_false]
      · have ea : f_X5_heightOf N S 6 a = some (qH n s a, S) := heightC_of N hP h0 hn hb (by omega) (by omega)
        have qa := q_in h0 hn hb (by omega : 0 ≤ a) (by omega : a < pkC n s)
        by_cases y : qH n s i ≤ qH n s a
        · rw [if_neg (by omega), ← ih N (i + 1) a (by omega) (by omega) (by omega) (by omega), f_X10_tallest_4]
          simp (disch := omega) only [e0, eg, eh, ea, f_X10_tallest_51, f_X10_tallest_53, gI, uI, cI_of, aI_of, sI_of, mnI_of, mxI_of, abI_of, dvI_of, rmI_of, bI_of, bV_of, rI, rV, rL, rP, rT, rZ_of, rC_of, if_pos, if_neg, if_true, if_false]
        · rw [if_pos (by omega), ← ih N (i + 1) i (by omega) (by omega) (by omega) (by omega), f_X10_tallest_4]
          simp (disch := omega) only [e0, eg, eh, ea, f_X10_tallest_51, f_X10_tallest_53, gI, uI, cI_of, aI_of, sI_of, mnI_of, mxI_of, abI_of, dvI_of, rmI_of, bI_of, bV_of, rI, rV, rL, rP, rT, rZ_of, rC_of, if_pos, if_neg, if_true, if_false]
    · rw [if_neg (fun y => k y.1), ← ih N (i + 1) a (by omega) (by omega) (by omega) (by omega), f_X10_tallest_4]
      simp (disch := omega) only [e0, eg, f_X10_tallest_53, gI, uI, cI_of, aI_of, sI_of, mnI_of, mxI_of, abI_of, dvI_of, rmI_of, bI_of, bV_of, rI, rV, rL, rP, rT, rZ_of, rC_of, if_pos, if_neg, if_true, if_false]
theorem tlF_none {H : Int → Int} {c : Int → Prop} [DecidablePred c] : ∀ (d : Nat) (i a : Int), (∀ k, i ≤ k → k < i + d → ¬ c k) → tlF H c d i a = a
  | 0, i, a, _ => rfl
  | d + 1, i, a, h => by
    show tlF H c d (i + 1) (if c i ∧ (a = -1 ∨ H a < H i) then i else a) = a
    rw [if_neg (fun y => h i (by omega) (by omega) y.1)]
    exact tlF_none d (i + 1) a (fun k x y => h k (by omega) (by omega))
theorem tallest_both (N M : Nat) (hN : 2000 ≤ N) (hM : 2000 ≤ M) (hB : B ≤ 50000) (H : RelB B Sc Sm) {a1 : Int} (h1 : inR a1) : ∃ (v : Int) (Sc' Sm' : S2), f_X10_tallest N Sc a1 = some (v, Sc') ∧ f_X11_tallest M Sm a1 = some (v, Sm') ∧ RelB (B + 40) Sc' Sm' := by
  obtain ⟨-, -, -, ⟨n, z, s, cur, -⟩, ⟨nl, r, pl, ln⟩, -⟩ := id H
  have i29 := cur.2.2.2.2.2.1
  have ha1 := h1.1
  have ha2 := h1.2
  obtain ⟨⟨n0, n48⟩, hb, hz, hc, hm, hi, hP, hQ⟩ := id cur
  by_cases g0 : n = 0
  · rw [if_pos g0] at i29
    have e0 := (hQ g0).1
    refine ⟨-1, Sc, Sm, ?_, ?_, H.up (by omega)⟩
    · unfold f_X10_tallest
      obtain ⟨N, rfl⟩ : ∃ M, N = M + 1 := ⟨N - 1, by omega⟩
      rw [f_X10_tallest_4]
      simp (disch := omega) only [e0, gI, uI, cI_of, aI_of, sI_of, mnI_of, mxI_of, abI_of, dvI_of, rmI_of, bI_of, bV_of, rI, rV, rL, rP, rT, rZ_of, rC_of, if_pos, if_neg, if_true, if_false]
    · unfold f_X11_tallest
      simp (disch := omega) only [i29, gI, uI, cI_of, aI_of, sI_of, mnI_of, mxI_of, abI_of, dvI_of, rmI_of, bI_of, bV_of, rI, rV, rL, rP, rT, rZ_of, rC_of, if_pos, if_neg, if_true, if_false]
  · rw [if_neg g0] at i29
    have n1 : 1 ≤ n := by omega
    have hP := hP n1
    have pf := (pk_facts n1 n48 hb).1
    have ec := tallestC_loop hP n1 n48 hb h1 (pkC n s).toNat N 0 (-1) (by omega) (by omega) (by omega) (Or.inl rfl)
    by_cases g1 : a1 < 0
    · rw [tlF_none _ _ _ (fun k x y q => by have := (q_in n1 n48 hb x (by omega : k < pkC n s)).2.2.2.2.1; omega)] at ec
      refine ⟨-1, Sc, Sm, ec, ?_, H.up (by omega)⟩
      unfold f_X11_tallest
      simp (disch := omega) only [i29, gI, uI, cI_of, aI_of, sI_of, mnI_of, mxI_of, abI_of, dvI_of, rmI_of, bI_of, bV_of, rI, rV, rL, rP, rT, rZ_of, rC_of, if_pos, if_neg, if_true, if_false]
    · obtain ⟨Sm1, e1, e2, e3, e4, e5, e6⟩ := finds_rel M cur n1 ln (by omega)
      have em := tallestOf_loop e4 e2 n1 n48 hb (g := a1) (by omega) (fun k => qG n s k = a1) (fun k a b => by rw [if_neg (by omega)]) (pkC n s).toNat M 0 (-1) (by omega) (by omega) (by omega) (Or.inl rfl)
      refine ⟨_, Sc, Sm1, ec, ?_, (H.keep KC.refl e6).up (by omega)⟩
      unfold f_X11_tallest f_X11_tallestOf
      simp (disch := omega) only [i29, e1, em, gI, uI, cI_of, aI_of, sI_of, mnI_of, mxI_of, abI_of, dvI_of, rmI_of, bI_of, bV_of, rI, rV, rL, rP, rT, rZ_of, rC_of, if_pos, if_neg, if_true, if_false]
theorem op_tallest (hB : B ≤ 50000) : Op_tallest (RelB B) (RelB (B + 40)) := fun Sc Sm H a1 h1 => ⟨2000, 2000, tallest_both 2000 2000 (by decide) (by decide) hB H h1⟩
end ASK2
