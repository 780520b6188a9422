/-! what is asked: rule, sample, basin, at, line, noiseFor -/
section ASK1
variable {Sc Sm : S2} {n z nl r B : Int} {s pl : Int → Int}
theorem finds_rel (M : Nat) (cur : CurR Sc Sm n s z) (h1 : 1 ≤ n) (ln : LineR Sc Sm nl r pl) (hM : 500 ≤ M) : ∃ Sm1, f_X11_finds M Sm = some Sm1 ∧ MPk Sm1 n s z ∧ MMt Sm1 n s z nl pl r 0 ∧ CvM Sm1 8 n s z ∧ LnM Sm1 nl r pl ∧ KM Sm Sm1 := by
  obtain ⟨⟨n0, n48⟩, hb, hz, hc, hm, hi, hP, -⟩ := cur
  obtain ⟨hLB, -, hLM, -⟩ := ln
  obtain ⟨Sm1, e1, e2, e3, e4⟩ := findsM_of M hm hb h1 n48 hz.1 hz.2 hLB hLM hM
  exact ⟨Sm1, e1, e2, e3, hm.keptM e4 (by decide) (by decide), hLM.kept e4 (by decide) (by decide) (by decide), KM.of e4 (fun j q => by have q : 13 ≤ j ∧ j ≤ 21 := q; omega) (fun k q => by have q : k = 35 ∨ k = 38 ∨ k = 41 := q; omega)⟩
theorem isKeptC_of (N : Nat) (cur : CurR Sc Sm n s z) {k : Int} (h1 : -2147483648 ≤ k) (h2 : k ≤ 2147483647) : f_X10_isKept N Sc k = some (if 1 ≤ n ∧ 0 ≤ k ∧ k < pkK n s z then 1 else 0, Sc) := by
  obtain ⟨⟨n0, n48⟩, hb, hz, hc, hm, hi, hP, hQ⟩ := cur
  unfold f_X10_isKept
  by_cases g : k < 0
  · rw [if_neg (c := 1 ≤ n ∧ _) (by omega)]
    simp (disch := omega) only [rZ_of, gI, uI, cI_of, aI_of, sI_of, mnI_of, mxI_of, abI_of, dvI_of, rmI_of, bI_of, bV_of, rI, rV, rL, rP, rT, rZ_of, rC_of, if_pos, if_neg, if_true, if_false]
  · by_cases g0 : n = 0
    · have e := (hQ g0).2
      rw [if_neg (c := 1 ≤ n ∧ _) (by omega)]
      simp (disch := omega) only [rZ_of, e, gI, uI, cI_of, aI_of, sI_of, mnI_of, mxI_of, abI_of, dvI_of, rmI_of, bI_of, bV_of, rI, rV, rL, rP, rT, rZ_of, rC_of, if_pos, if_neg, if_true, if_false]
    · have hP := hP (by omega)
      have e := hP.2.1
      have kk := pkK_in (z := z) (by omega : 1 ≤ n) n48 hb
      have pf := (pk_facts (by omega : 1 ≤ n) n48 hb).1
      by_cases g1 : k < pkK n s z
      · rw [if_pos (c := 1 ≤ n ∧ _) (by omega)]
        simp (disch := omega) only [rZ_of, e, gI, uI, cI_of, aI_of, sI_of, mnI_of, mxI_of, abI_of, dvI_of, rmI_of, bI_of, bV_of, rI, rV, rL, rP, rT, rZ_of, rC_of, if_pos, if_neg, if_true, if_false]
      · rw [if_neg (c := 1 ≤ n ∧ _) (by omega)]
        simp (disch := omega) only [rZ_of, e, gI, uI, cI_of, aI_of, sI_of, mnI_of, mxI_of, abI_of, dvI_of, rmI_of, bI_of, bV_of, rI, rV, rL, rP, rT, rZ_of, rC_of, if_pos, if_neg, if_true, if_false]
theorem isPeak_y (M : Nat) (cur : CurR Sc Sm n s z) (h1 : 1 ≤ n) (ln : LineR Sc Sm nl r pl) (hM : 500 ≤ M) {k : Int} (k1 : -2147483648 ≤ k) (k2 : k ≤ 2147483647) : ∃ Sm1, f_X11_isPeak M Sm k = some (if 0 ≤ k ∧ k < pkC n s then 1 else 0, Sm1) ∧ MPk Sm1 n s z ∧ MMt Sm1 n s z nl pl r 0 ∧ CvM Sm1 8 n s z ∧ LnM Sm1 nl r pl ∧ KM Sm Sm1 := by
  obtain ⟨Sm1, e1, e2⟩ := finds_rel M cur h1 ln hM
  refine ⟨Sm1, ?_, e2⟩
  have i29 := cur.2.2.2.2.2.1
  rw [if_neg (by omega)] at i29
  have e35 := e2.1.1.1
  have pf := (pk_facts h1 cur.1.2 cur.2.1).1
  have n48 := cur.1.2
  unfold f_X11_isPeak
  by_cases g : 0 ≤ k ∧ k < pkC n s
  · rw [if_pos g]
    simp (disch := omega) only [i29, e1, e35, in_y M, rZ_of, gI, uI, cI_of, aI_of, sI_of, mnI_of, mxI_of, abI_of, dvI_of, rmI_of, bI_of, bV_of, rI, rV, rL, rP, rT, rZ_of, rC_of, if_pos, if_neg, if_true, if_false]
  · rw [if_neg g]
    simp (disch := omega) only [i29, e1, e35, in_n M, rZ_of, gI, uI, cI_of, aI_of, sI_of, mnI_of, mxI_of, abI_of, dvI_of, rmI_of, bI_of, bV_of, rI, rV, rL, rP, rT, rZ_of, rC_of, if_pos, if_neg, if_true, if_false]
theorem isPeak_0 (M : Nat) (cur : CurR Sc Sm n s z) (h0 : n = 0) {k : Int} : f_X11_isPeak M Sm k = some (0, Sm) := by
  have i29 := cur.2.2.2.2.2.1
  rw [if_pos h0] at i29
  unfold f_X11_isPeak
  simp (disch := omega) only [i29, rZ_of, gI, uI, cI_of, aI_of, sI_of, mnI_of, mxI_of, abI_of, dvI_of, rmI_of, bI_of, bV_of, rI, rV, rL, rP, rT, rZ_of, rC_of, if_pos, if_neg, if_true, if_false]
theorem rule_both (N M : Nat) (hN : 2000 ≤ N) (hM : 2000 ≤ M) (hB : B ≤ 50000) (H : RelB B Sc Sm) {a1 : Int} (h1 : inR a1) : ∃ (v : Int) (Sc' Sm' : S2), f_X10_rule N Sc a1 = some (v, Sc') ∧ f_X11_rule M Sm a1 = some (v, Sm') ∧ RelB (B + 40) Sc' Sm' := by
  obtain ⟨-, -, -, ⟨n, z, s, cur, -⟩, ⟨nl, r, pl, ln⟩, -⟩ := id H
  have i29 := cur.2.2.2.2.2.1
  have ha1 := h1.1
  have ha2 := h1.2
  by_cases g0 : n = 0
  · rw [if_pos g0] at i29
    refine ⟨-1, Sc, Sm, ?_, ?_, H.up (by omega)⟩
    · unfold f_X10_rule
      rw [noTrace_y _ cur g0]
      simp (disch := omega) only [gI, uI, cI_of, aI_of, sI_of, mnI_of, mxI_of, abI_of, dvI_of, rmI_of, bI_of, bV_of, rI, rV, rL, rP, rT, rZ_of, rC_of, if_pos, if_neg, if_true, if_false]
    · unfold f_X11_rule
      simp (disch := omega) only [i29, gI, uI, cI_of, aI_of, sI_of, mnI_of, mxI_of, abI_of, dvI_of, rmI_of, bI_of, bV_of, rI, rV, rL, rP, rT, rZ_of, rC_of, if_pos, if_neg, if_true, if_false]
  · rw [if_neg g0] at i29
    have n1 : 1 ≤ n := by have := cur.1; omega
    obtain ⟨Sm1, e1, e2, e3, e4, e5, e6⟩ := finds_rel M cur n1 ln (by omega)
    obtain ⟨⟨n0, n48⟩, hb, hz, hc, hm, hi, hP, -⟩ := id cur
    have hP := hP n1
    obtain ⟨hLB, hLC, -, -⟩ := id ln
    by_cases gr : 0 ≤ a1 ∧ a1 ≤ 7
    · refine ⟨if a1 = 0 then n else if a1 = 1 then z else if a1 = 2 then r else if a1 = 3 then nl else if a1 = 4 then pkC n s else if a1 = 5 then pkK n s z else if a1 = 6 then minF s n.toNat 0 999 else sumF s n.toNat 0 0, Sc, Sm1, ?_, ?_, (H.keep KC.refl e6).up (by omega)⟩
      · have e41 := hc.1
        have e42 := hc.2.1
        have e20 := hLC.1
        have e21 := hLC.2.1
        have e60 := hP.1
        have e61 := hP.2.1
        have el := leastSample_of N hc hb n0 n48 (by omega)
        have es := sumOfSamples_of N hc n0 n48 (by omega)
        unfold f_X10_rule
        rw [noTrace_n _ cur n1]
        rcases (show a1 = 0 ∨ a1 = 1 ∨ a1 = 2 ∨ a1 = 3 ∨ a1 = 4 ∨ a1 = 5 ∨ a1 = 6 ∨ a1 = 7 by omega) with g | g | g | g | g | g | g | g
        · simp (disch := omega) only [e41, gI, uI, cI_of, aI_of, sI_of, mnI_of, mxI_of, abI_of, dvI_of, rmI_of, bI_of, bV_of, rI, rV, rL, rP, rT, rZ_of, rC_of, if_pos, if_neg, if_true, if_false]
        · simp (disch := omega) only [e42, gI, uI, cI_of, aI_of, sI_of, mnI_of, mxI_of, abI_of, dvI_of, rmI_of, bI_of, bV_of, rI, rV, rL, rP, rT, rZ_of, rC_of, if_pos, if_neg, if_true, if_false]
        · simp (disch := omega) only [e21, gI, uI, cI_of, aI_of, sI_of, mnI_of, mxI_of, abI_of, dvI_of, rmI_of, bI_of, bV_of, rI, rV, rL, rP, rT, rZ_of, rC_of, if_pos, if_neg, if_true, if_false]
        · simp (disch := omega) only [e20, gI, uI, cI_of, aI_of, sI_of, mnI_of, mxI_of, abI_of, dvI_of, rmI_of, bI_of, bV_of, rI, rV, rL, rP, rT, rZ_of, rC_of, if_pos, if_neg, if_true, if_false]
        · simp (disch := omega) only [e60, gI, uI, cI_of, aI_of, sI_of, mnI_of, mxI_of, abI_of, dvI_of, rmI_of, bI_of, bV_of, rI, rV, rL, rP, rT, rZ_of, rC_of, if_pos, if_neg, if_true, if_false]
        · simp (disch := omega) only [e61, gI, uI, cI_of, aI_of, sI_of, mnI_of, mxI_of, abI_of, dvI_of, rmI_of, bI_of, bV_of, rI, rV, rL, rP, rT, rZ_of, rC_of, if_pos, if_neg, if_true, if_false]
        · simp (disch := omega) only [el, gI, uI, cI_of, aI_of, sI_of, mnI_of, mxI_of, abI_of, dvI_of, rmI_of, bI_of, bV_of, rI, rV, rL, rP, rT, rZ_of, rC_of, if_pos, if_neg, if_true, if_false]
        · simp (disch := omega) only [es, gI, uI, cI_of, aI_of, sI_of, mnI_of, mxI_of, abI_of, dvI_of, rmI_of, bI_of, bV_of, rI, rV, rL, rP, rT, rZ_of, rC_of, if_pos, if_neg, if_true, if_false]
      · have em := many_of M e4
        have e49 := e4.2.1
        have e27 := e5.1
        have e28 := e5.2.1
        have e35 := e2.1.1
        have e38 := e2.2.2
        have el := leastM_of M e4 hb n1 n48 (by omega)
        have es := sumM_of M e4 n0 n48 (by omega)
        unfold f_X11_rule
        rcases (show a1 = 0 ∨ a1 = 1 ∨ a1 = 2 ∨ a1 = 3 ∨ a1 = 4 ∨ a1 = 5 ∨ a1 = 6 ∨ a1 = 7 by omega) with g | g | g | g | g | g | g | g
        · simp (disch := omega) only [i29, in_y M, e1, em, gI, uI, cI_of, aI_of, sI_of, mnI_of, mxI_of, abI_of, dvI_of, rmI_of, bI_of, bV_of, rI, rV, rL, rP, rT, rZ_of, rC_of, if_pos, if_neg, if_true, if_false]
        · simp (disch := omega) only [i29, in_y M, e1, e49, gI, uI, cI_of, aI_of, sI_of, mnI_of, mxI_of, abI_of, dvI_of, rmI_of, bI_of, bV_of, rI, rV, rL, rP, rT, rZ_of, rC_of, if_pos, if_neg, if_true, if_false]
        · simp (disch := omega) only [i29, in_y M, e1, e28, gI, uI, cI_of, aI_of, sI_of, mnI_of, mxI_of, abI_of, dvI_of, rmI_of, bI_of, bV_of, rI, rV, rL, rP, rT, rZ_of, rC_of, if_pos, if_neg, if_true, if_false]
        · simp (disch := omega) only [i29, in_y M, e1, e27, gI, uI, cI_of, aI_of, sI_of, mnI_of, mxI_of, abI_of, dvI_of, rmI_of, bI_of, bV_of, rI, rV, rL, rP, rT, rZ_of, rC_of, if_pos, if_neg, if_true, if_false]
        · simp (disch := omega) only [i29, in_y M, e1, e35, gI, uI, cI_of, aI_of, sI_of, mnI_of, mxI_of, abI_of, dvI_of, rmI_of, bI_of, bV_of, rI, rV, rL, rP, rT, rZ_of, rC_of, if_pos, if_neg, if_true, if_false]
        · simp (disch := omega) only [i29, in_y M, e1, e38, gI, uI, cI_of, aI_of, sI_of, mnI_of, mxI_of, abI_of, dvI_of, rmI_of, bI_of, bV_of, rI, rV, rL, rP, rT, rZ_of, rC_of, if_pos, if_neg, if_true, if_false]
        · simp (disch := omega) only [i29, in_y M, e1, el, gI, uI, cI_of, aI_of, sI_of, mnI_of, mxI_of, abI_of, dvI_of, rmI_of, bI_of, bV_of, rI, rV, rL, rP, rT, rZ_of, rC_of, if_pos, if_neg, if_true, if_false]
        · simp (disch := omega) only [i29, in_y M, e1, es, gI, uI, cI_of, aI_of, sI_of, mnI_of, mxI_of, abI_of, dvI_of, rmI_of, bI_of, bV_of, rI, rV, rL, rP, rT, rZ_of, rC_of, if_pos, if_neg, if_true, if_false]
    · refine ⟨-1, Sc, Sm, ?_, ?_, H.up (by omega)⟩
      · unfold f_X10_rule
        rw [noTrace_n _ cur n1]
        simp (disch := omega) only [gI, uI, cI_of, aI_of, sI_of, mnI_of, mxI_of, abI_of, dvI_of, rmI_of, bI_of, bV_of, rI, rV, rL, rP, rT, rZ_of, rC_of, if_pos, if_neg, if_true, if_false]
      · unfold f_X11_rule
        simp (disch := omega) only [i29, in_n M, gI, uI, cI_of, aI_of, sI_of, mnI_of, mxI_of, abI_of, dvI_of, rmI_of, bI_of, bV_of, rI, rV, rL, rP, rT, rZ_of, rC_of, if_pos, if_neg, if_true, if_false]
theorem op_rule (hB : B ≤ 50000) : Op_rule (RelB B) (RelB (B + 40)) := fun Sc Sm H a1 h1 => ⟨2000, 2000, rule_both 2000 2000 (by decide) (by decide) hB H h1⟩
theorem sample_both (N M : Nat) (hB : B ≤ 50000) (H : RelB B Sc Sm) {a1 : Int} (h1 : inR a1) : ∃ (v : Int) (Sc' Sm' : S2), f_X10_sample N Sc a1 = some (v, Sc') ∧ f_X11_sample M Sm a1 = some (v, Sm') ∧ RelB (B + 40) Sc' Sm' := by
  obtain ⟨-, -, -, ⟨n, z, s, cur, -⟩, -⟩ := id H
  have i29 := cur.2.2.2.2.2.1
  obtain ⟨⟨n0, n48⟩, hb, hz, hc, hm, hi, hP, -⟩ := id cur
  by_cases g : 0 ≤ a1 ∧ a1 < n
  · rw [if_neg (by omega)] at i29
    have ec := hc.2.2 a1 g.1 g.2
    have em := hm.2.2 a1 g.1 g.2
    refine ⟨s a1, Sc, Sm, ?_, ?_, H.up (by omega)⟩
    · unfold f_X10_sample
      simp (disch := omega) only [has_y N hc n48, ec, gI, uI, cI_of, aI_of, sI_of, mnI_of, mxI_of, abI_of, dvI_of, rmI_of, bI_of, bV_of, rI, rV, rL, rP, rT, rZ_of, rC_of, if_pos, if_neg, if_true, if_false]
    · unfold f_X11_sample
      simp (disch := omega) only [isPlace_y M hm i29 n48, em, gI, uI, cI_of, aI_of, sI_of, mnI_of, mxI_of, abI_of, dvI_of, rmI_of, bI_of, bV_of, rI, rV, rL, rP, rT, rZ_of, rC_of, if_pos, if_neg, if_true, if_false]
  · refine ⟨-1, Sc, Sm, ?_, ?_, H.up (by omega)⟩
    · unfold f_X10_sample
      rw [has_n N hc n0 n48 h1.1 h1.2 (by omega)]
      simp (disch := omega) only [gI, uI, cI_of, aI_of, sI_of, mnI_of, mxI_of, abI_of, dvI_of, rmI_of, bI_of, bV_of, rI, rV, rL, rP, rT, rZ_of, rC_of, if_pos, if_neg, if_true, if_false]
    · unfold f_X11_sample
      by_cases g0 : n = 0
      · rw [if_pos g0] at i29
        rw [isPlace_0 M i29]
        simp (disch := omega) only [gI, uI, cI_of, aI_of, sI_of, mnI_of, mxI_of, abI_of, dvI_of, rmI_of, bI_of, bV_of, rI, rV, rL, rP, rT, rZ_of, rC_of, if_pos, if_neg, if_true, if_false]
      · rw [if_neg g0] at i29
        rw [isPlace_n M hm i29 n0 n48 h1.1 h1.2 (by omega)]
        simp (disch := omega) only [gI, uI, cI_of, aI_of, sI_of, mnI_of, mxI_of, abI_of, dvI_of, rmI_of, bI_of, bV_of, rI, rV, rL, rP, rT, rZ_of, rC_of, if_pos, if_neg, if_true, if_false]
theorem op_sample (hB : B ≤ 50000) : Op_sample (RelB B) (RelB (B + 40)) := fun Sc Sm H a1 h1 => ⟨2000, 2000, sample_both 2000 2000 hB H h1⟩
theorem basin_both (N M : Nat) (hN : 2000 ≤ N) (hM : 2000 ≤ M) (hB : B ≤ 50000) (H : RelB B Sc Sm) {a1 a2 : Int} (h1 : inR a1) (h2 : inR a2) : ∃ (v : Int) (Sc' Sm' : S2), f_X10_basin N Sc a1 a2 = some (v, Sc') ∧ f_X11_basin M Sm a1 a2 = some (v, Sm') ∧ RelB (B + 40) Sc' Sm' := by
  obtain ⟨-, -, -, ⟨n, z, s, cur, -⟩, ⟨nl, r, pl, ln⟩, -⟩ := id H
  have ha1 := h2.1
  have ha2 := h2.2
  have ek := isKeptC_of N cur h1.1 h1.2
  by_cases g0 : n = 0
  · rw [if_neg (by omega)] at ek
    refine ⟨-1, Sc, Sm, ?_, ?_, H.up (by omega)⟩
    · unfold f_X10_basin
      simp (disch := omega) only [ek, gI, uI, cI_of, aI_of, sI_of, mnI_of, mxI_of, abI_of, dvI_of, rmI_of, bI_of, bV_of, rI, rV, rL, rP, rT, rZ_of, rC_of, if_pos, if_neg, if_true, if_false]
    · unfold f_X11_basin
      rw [isPeak_0 M cur g0]
      simp (disch := omega) only [gI, uI, cI_of, aI_of, sI_of, mnI_of, mxI_of, abI_of, dvI_of, rmI_of, bI_of, bV_of, rI, rV, rL, rP, rT, rZ_of, rC_of, if_pos, if_neg, if_true, if_false]
  · have n1 : 1 ≤ n := by have := cur.1; omega
    obtain ⟨Sm1, e1, e2, e3, e4, e5, e6⟩ := isPeak_y M cur n1 ln (by omega) h1.1 h1.2
    obtain ⟨⟨n0, n48⟩, hb, hz, hc, hm, hi, hP, -⟩ := id cur
    have hP := hP n1
    have kk := pkK_in (z := z) n1 n48 hb
    have km := isKept_of M e2 n1 n48 hb h1.1 h1.2
    by_cases g1 : 0 ≤ a1 ∧ a1 < pkK n s z
    · rw [if_pos (by omega)] at ek e1
      rw [if_pos g1] at km
      by_cases g2 : 0 ≤ a2 ∧ a2 ≤ 3
      · have ic : a1 < pkC n s := by omega
        refine ⟨if a2 = 0 then fsQ n s z a1 else if a2 = 1 then lsQ n s z a1 else if a2 = 2 then arQ n s z a1 else wdQ n s a1, Sc, Sm1, ?_, ?_, (H.keep KC.refl e6).up (by omega)⟩
        · unfold f_X10_basin
          rcases (show a2 = 0 ∨ a2 = 1 ∨ a2 = 2 ∨ a2 = 3 by omega) with g | g | g | g
          · have e := basinStart_of N hc hP n1 n48 hb g1.1 ic (by omega)
            simp (disch := omega) only [ek, e, gI, uI, cI_of, aI_of, sI_of, mnI_of, mxI_of, abI_of, dvI_of, rmI_of, bI_of, bV_of, rI, rV, rL, rP, rT, rZ_of, rC_of, if_pos, if_neg, if_true, if_false]
          · have e := basinEnd_of N hc hP n1 n48 hb g1.1 ic (by omega)
            simp (disch := omega) only [ek, e, gI, uI, cI_of, aI_of, sI_of, mnI_of, mxI_of, abI_of, dvI_of, rmI_of, bI_of, bV_of, rI, rV, rL, rP, rT, rZ_of, rC_of, if_pos, if_neg, if_true, if_false]
          · have e := area_of N hc hP n1 n48 hb g1.1 ic (by omega)
            simp (disch := omega) only [ek, e, gI, uI, cI_of, aI_of, sI_of, mnI_of, mxI_of, abI_of, dvI_of, rmI_of, bI_of, bV_of, rI, rV, rL, rP, rT, rZ_of, rC_of, if_pos, if_neg, if_true, if_false]
          · have e := width_of N hc hP n1 n48 hb g1.1 ic (by omega)
            simp (disch := omega) only [ek, e, gI, uI, cI_of, aI_of, sI_of, mnI_of, mxI_of, abI_of, dvI_of, rmI_of, bI_of, bV_of, rI, rV, rL, rP, rT, rZ_of, rC_of, if_pos, if_neg, if_true, if_false]
        · unfold f_X11_basin
          rcases (show a2 = 0 ∨ a2 = 1 ∨ a2 = 2 ∨ a2 = 3 by omega) with g | g | g | g
          · have e := firstOf_of M e4 e2 n1 n48 hb g1.1 ic (by omega)
            simp (disch := omega) only [e1, km, in_y M, e, gI, uI, cI_of, aI_of, sI_of, mnI_of, mxI_of, abI_of, dvI_of, rmI_of, bI_of, bV_of, rI, rV, rL, rP, rT, rZ_of, rC_of, if_pos, if_neg, if_true, if_false]
          · have e := lastOf_of M e4 e2 n1 n48 hb g1.1 ic (by omega)
            simp (disch := omega) only [e1, km, in_y M, e, gI, uI, cI_of, aI_of, sI_of, mnI_of, mxI_of, abI_of, dvI_of, rmI_of, bI_of, bV_of, rI, rV, rL, rP, rT, rZ_of, rC_of, if_pos, if_neg, if_true, if_false]
          · have e := areaOf_of M e4 e2 n1 n48 hb g1.1 ic (by omega)
            simp (disch := omega) only [e1, km, in_y M, e, gI, uI, cI_of, aI_of, sI_of, mnI_of, mxI_of, abI_of, dvI_of, rmI_of, bI_of, bV_of, rI, rV, rL, rP, rT, rZ_of, rC_of, if_pos, if_neg, if_true, if_false]
          · have e := widthOf_of M e4 e2 n1 n48 hb g1.1 ic (by omega)
            simp (disch := omega) only [e1, km, in_y M, e, gI, uI, cI_of, aI_of, sI_of, mnI_of, mxI_of, abI_of, dvI_of, rmI_of, bI_of, bV_of, rI, rV, rL, rP, rT, rZ_of, rC_of, if_pos, if_neg, if_true, if_false]
      · refine ⟨-1, Sc, Sm1, ?_, ?_, (H.keep KC.refl e6).up (by omega)⟩
        · unfold f_X10_basin
          simp (disch := omega) only [ek, gI, uI, cI_of, aI_of, sI_of, mnI_of, mxI_of, abI_of, dvI_of, rmI_of, bI_of, bV_of, rI, rV, rL, rP, rT, rZ_of, rC_of, if_pos, if_neg, if_true, if_false]
        · unfold f_X11_basin
          simp (disch := omega) only [e1, km, in_n M, gI, uI, cI_of, aI_of, sI_of, mnI_of, mxI_of, abI_of, dvI_of, rmI_of, bI_of, bV_of, rI, rV, rL, rP, rT, rZ_of, rC_of, if_pos, if_neg, if_true, if_false]
    · rw [if_neg (by omega)] at ek
      rw [if_neg g1] at km
      refine ⟨-1, Sc, Sm1, ?_, ?_, (H.keep KC.refl e6).up (by omega)⟩
      · unfold f_X10_basin
        simp (disch := omega) only [ek, gI, uI, cI_of, aI_of, sI_of, mnI_of, mxI_of, abI_of, dvI_of, rmI_of, bI_of, bV_of, rI, rV, rL, rP, rT, rZ_of, rC_of, if_pos, if_neg, if_true, if_false]
      · unfold f_X11_basin
        by_cases g3 : 0 ≤ a1 ∧ a1 < pkC n s
        · rw [if_pos g3] at e1
          simp (disch := omega) only [e1, km, gI, uI, cI_of, aI_of, sI_of, mnI_of, mxI_of, abI_of, dvI_of, rmI_of, bI_of, bV_of, rI, rV, rL, rP, rT, rZ_of, rC_of, if_pos, if_neg, if_true, if_false]
        · rw [if_neg g3] at e1
          simp (disch := omega) only [e1, gI, uI, cI_of, aI_of, sI_of, mnI_of, mxI_of, abI_of, dvI_of, rmI_of, bI_of, bV_of, rI, rV, rL, rP, rT, rZ_of, rC_of, if_pos, if_neg, if_true, if_false]
theorem op_basin (hB : B ≤ 50000) : Op_basin (RelB B) (RelB (B + 40)) := fun Sc Sm H a1 a2 h1 h2 => ⟨2000, 2000, basin_both 2000 2000 (by decide) (by decide) hB H h1 h2⟩
theorem noiseFor_both (N M : Nat) (hN : 2000 ≤ N) (hM : 2000 ≤ M) (hB : B ≤ 50000) (H : RelB B Sc Sm) {a1 : Int} (h1 : inR a1) : ∃ (v : Int) (Sc' Sm' : S2), f_X10_noiseFor N Sc a1 = some (v, Sc') ∧ f_X11_noiseFor M Sm a1 = some (v, Sm') ∧ RelB (B + 40) Sc' Sm' := by
  obtain ⟨-, -, -, ⟨n, z, s, cur, -⟩, ⟨nl, r, pl, ln⟩, -⟩ := id H
  have i29 := cur.2.2.2.2.2.1
  have ha1 := h1.1
  have ha2 := h1.2
  by_cases g0 : n = 0
  · rw [if_pos g0] at i29
    refine ⟨-1, Sc, Sm, ?_, ?_, H.up (by omega)⟩
    · unfold f_X10_noiseFor
      rw [noTrace_y _ cur g0]
      simp (disch := omega) only [gI, uI, cI_of, aI_of, sI_of, mnI_of, mxI_of, abI_of, dvI_of, rmI_of, bI_of, bV_of, rI, rV, rL, rP, rT, rZ_of, rC_of, if_pos, if_neg, if_true, if_false]
    · unfold f_X11_noiseFor
      simp (disch := omega) only [i29, gI, uI, cI_of, aI_of, sI_of, mnI_of, mxI_of, abI_of, dvI_of, rmI_of, bI_of, bV_of, rI, rV, rL, rP, rT, rZ_of, rC_of, if_pos, if_neg, if_true, if_false]
  · rw [if_neg g0] at i29
    have n1 : 1 ≤ n := by have := cur.1; omega
    obtain ⟨Sm1, e1, e2, e3, e4, e5, e6⟩ := finds_rel M cur n1 ln (by omega)
    obtain ⟨⟨n0, n48⟩, hb, hz, hc, hm, hi, hP, -⟩ := id cur
    have hP := hP n1
    have pf := (pk_facts n1 n48 hb).1
    have e60 := hP.1
    have e35 := e2.1.1
    by_cases gr : 1 ≤ a1 ∧ a1 ≤ 48
    · by_cases gc : a1 < pkC n s
      · have ec : f_X5_persistenceOf N Sc 6 a1 = some (qL n s a1, Sc) := persC_of N hP n1 n48 hb (by omega) gc
        have em := lifeK_of M e4 e2 n1 n48 hb (by omega : 0 ≤ a1) gc
        refine ⟨qL n s a1, Sc, Sm1, ?_, ?_, (H.keep KC.refl e6).up (by omega)⟩
        · unfold f_X10_noiseFor
          rw [noTrace_n _ cur n1]
          simp (disch := omega) only [e60, ec, gI, uI, cI_of, aI_of, sI_of, mnI_of, mxI_of, abI_of, dvI_of, rmI_of, bI_of, bV_of, rI, rV, rL, rP, rT, rZ_of, rC_of, if_pos, if_neg, if_true, if_false]
        · unfold f_X11_noiseFor
          simp (disch := omega) only [i29, in_y M, e1, e35, em, gI, uI, cI_of, aI_of, sI_of, mnI_of, mxI_of, abI_of, dvI_of, rmI_of, bI_of, bV_of, rI, rV, rL, rP, rT, rZ_of, rC_of, if_pos, if_neg, if_true, if_false]
      · refine ⟨0, Sc, Sm1, ?_, ?_, (H.keep KC.refl e6).up (by omega)⟩
        · unfold f_X10_noiseFor
          rw [noTrace_n _ cur n1]
          simp (disch := omega) only [e60, gI, uI, cI_of, aI_of, sI_of, mnI_of, mxI_of, abI_of, dvI_of, rmI_of, bI_of, bV_of, rI, rV, rL, rP, rT, rZ_of, rC_of, if_pos, if_neg, if_true, if_false]
        · unfold f_X11_noiseFor
          simp (disch := omega) only [i29, in_y M, e1, e35, gI, uI, cI_of, aI_of, sI_of, mnI_of, mxI_of, abI_of, dvI_of, rmI_of, bI_of, bV_of, rI, rV, rL, rP, rT, rZ_of, rC_of, if_pos, if_neg, if_true, if_false]
    · refine ⟨-1, Sc, Sm, ?_, ?_, H.up (by omega)⟩
      · unfold f_X10_noiseFor
        rw [noTrace_n _ cur n1]
        by_cases q : a1 < 1
        · simp (disch := omega) only [gI, uI, cI_of, aI_of, sI_of, mnI_of, mxI_of, abI_of, dvI_of, rmI_of, bI_of, bV_of, rI, rV, rL, rP, rT, rZ_of, rC_of, if_pos, if_neg, if_true, if_false]
        · simp (disch := omega) only [gI, uI, cI_of, aI_of, sI_of, mnI_of, mxI_of, abI_of, dvI_of, rmI_of, bI_of, bV_of, rI, rV, rL, rP, rT, rZ_of, rC_of, if_pos, if_neg, if_true, if_false]
      · unfold f_X11_noiseFor
        simp (disch := omega) only [i29, in_n M, gI, uI, cI_of, aI_of, sI_of, mnI_of, mxI_of, abI_of, dvI_of, rmI_of, bI_of, bV_of, rI, rV, rL, rP, rT, rZ_of, rC_of, if_pos, if_neg, if_true, if_false]
theorem op_noiseFor (hB : B ≤ 50000) : Op_noiseFor (RelB B) (RelB (B + 40)) := fun Sc Sm H a1 h1 => ⟨2000, 2000, noiseFor_both 2000 2000 (by decide) (by decide) hB H h1⟩
end ASK1
