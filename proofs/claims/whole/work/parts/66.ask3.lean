/-! what is asked: missed, most, room -/
section ASK3
variable {S Sc Sm : S2} {n z nl r B : Int} {s pl : Int → Int}
/-- lines that are taken, as bits -/
def mbF (t : Int → Int) (d : Nat) (i a : Int) : Int := fld (fun a i => if t i = -1 then a else bz (iz a ||| iz (bz (iz 1 <<< (iz i &&& 31))))) d i a
theorem bz_in (x : Int32) : inR (bz x) := inR_toInt x
theorem or_0 {x : Int} (h : inR x) : bz (iz x ||| iz 0) = x := by
  have e : iz x ||| iz 0 = iz x := by
    have : iz 0 = 0 := rfl
    rw [this]; simp
  rw [e]; exact iz_in h
theorem bitsC_loop {t : Int → Int} (hnl : 0 ≤ nl ∧ nl ≤ 8) (h0 : S.1 20 0 = nl) (ht : ∀ i, 0 ≤ i → i < nl → S.1 23 i = t i) (hb : ∀ i, -1 ≤ t i ∧ t i ≤ 48) : ∀ (d N : Nat) (i a : Int), 0 ≤ i → i + d = nl → d < N → f_X10_matchedBits_17 N a i S = some (mbF t d i a, S) := by
  intro d
  induction d with
  | zero =>
    intro N i a hi0 hi hN
    obtain ⟨N, rfl⟩ : ∃ M, N = M + 1 := ⟨N - 1, by omega⟩
    rw [f_X10_matchedBits_17]
    simp (disch := omega) only [h0, gI, uI, cI_of, aI_of, sI_of, mnI_of, mxI_of, abI_of, dvI_of, rmI_of, bI_of, bV_of, rI, rV, rL, rP, rT, rZ_of, rC_of, if_pos, if_neg, if_true, if_false]
    rfl
  | succ d ih =>
    intro N i a hi0 hi hN
    obtain ⟨N, rfl⟩ : ∃ M, N = M + 1 := ⟨N - 1, by omega⟩
    have e1 := ht i hi0 (by omega)
    have q := hb i
    have e : mbF t (d + 1) i a = mbF t d (i + 1) (if t i = -1 then a else bz (iz a ||| iz (bz (iz 1 <<< (iz i &&& 31))))) := rfl
    rw [e]
    by_cases g : t i = -1
    · rw [if_pos g, ← ih N (i + 1) a (by omega) (by omega) (by omega), f_X10_matchedBits_17]
      simp (disch := omega) only [h0, e1, f_X10_matchedBits_47, gI, uI, cI_of, aI_of, sI_of, mnI_of, mxI_of, abI_of, dvI_of, rmI_of, bI_of, bV_of, rI, rV, rL, rP, rT, rZ_of, rC_of, if_pos, if_neg, if_true, if_false]
    · rw [if_neg g, ← ih N (i + 1) _ (by omega) (by omega) (by omega), f_X10_matchedBits_17]
      simp (disch := omega) only [h0, e1, f_X10_matchedBits_47, gI, uI, cI_of, aI_of, sI_of, mnI_of, mxI_of, abI_of, dvI_of, rmI_of, bI_of, bV_of, rI, rV, rL, rP, rT, rZ_of, rC_of, if_pos, if_neg, if_true, if_false]
theorem bitsM_loop {t : Int → Int} (hnl : 0 ≤ nl ∧ nl ≤ 8) (h0 : S.1 0 27 = nl) (ht : ∀ i, 0 ≤ i → i < nl → S.1 21 i = t i) (hb : ∀ i, -1 ≤ t i ∧ t i ≤ 48) : ∀ (d N : Nat) (i a : Int), 0 ≤ i → i + d = nl → d < N → inR a → f_X11_matched_8 N a i S = some (mbF t d i a, S) := by
  intro d
  induction d with
  | zero =>
    intro N i a hi0 hi hN ha
    obtain ⟨N, rfl⟩ : ∃ M, N = M + 1 := ⟨N - 1, by omega⟩
    rw [f_X11_matched_8]
    simp (disch := omega) only [h0, gI, uI, cI_of, aI_of, sI_of, mnI_of, mxI_of, abI_of, dvI_of, rmI_of, bI_of, bV_of, rI, rV, rL, rP, rT, rZ_of, rC_of, if_pos, if_neg, if_true, if_false]
    rfl
  | succ d ih =>
    intro N i a hi0 hi hN ha
    obtain ⟨N, rfl⟩ : ∃ M, N = M + 1 := ⟨N - 1, by omega⟩
    have e1 := ht i hi0 (by omega)
    have q := hb i
    have e : mbF t (d + 1) i a = mbF t d (i + 1) (if t i = -1 then a else bz (iz a ||| iz (bz (iz 1 <<< (iz i &&& 31))))) := rfl
    rw [e]
    by_cases g : t i = -1
    · rw [if_pos g, ← ih N (i + 1) a (by omega) (by omega) (by omega) ha, f_X11_matched_8]
      simp (disch := omega) only [h0, e1, f_X11_matched_34, gI, uI, cI_of, aI_of, sI_of, mnI_of, mxI_of, abI_of, dvI_of, rmI_of, bI_of, bV_of, rI, rV, rL, rP, rT, rZ_of, rC_of, if_pos, if_neg, if_true, if_false]
      rw [or_0 ha]
    · rw [if_neg g, ← ih N (i + 1) _ (by omega) (by omega) (by omega) (bz_in _), f_X11_matched_8]
      simp (disch := omega) only [h0, e1, f_X11_matched_34, gI, uI, cI_of, aI_of, sI_of, mnI_of, mxI_of, abI_of, dvI_of, rmI_of, bI_of, bV_of, rI, rV, rL, rP, rT, rZ_of, rC_of, if_pos, if_neg, if_true, if_false]
theorem mtF_in (h1 : 1 ≤ n) (hn : n ≤ 48) (hb : CvB n s) {by_ : Int} : ∀ i, -1 ≤ mtF n s z nl pl r by_ i ∧ mtF n s z nl pl r by_ i ≤ 48 := fun i => by
  have kk := pkK_in (z := z) h1 hn hb
  have pf := (pk_facts h1 hn hb).1
  have hI := mtT_I (nl := nl) (pl := pl) (r := r) (P := qP n s) (by_ := by_) (pkK n s z).toNat i
  show -1 ≤ mtT nl pl r (qP n s) by_ (pkK n s z).toNat i ∧ mtT nl pl r (qP n s) by_ (pkK n s z).toNat i ≤ 48
  omega
theorem matchedBits_of (N : Nat) (hLB : LnB nl r pl) (h1 : 1 ≤ n) (hn : n ≤ 48) (hb : CvB n s) (hLC : LnC S nl r pl) (hP : CP S 6 n s z) (hN : 500 ≤ N) : ∃ S', f_X10_matchedBits N S = some (mbF (mtF n s z nl pl r 0) nl.toNat 0 0, S') ∧ KC S S' := by
  obtain ⟨S1, c1, c2, c3⟩ := matchC_of N hLB h1 hn hb (by_ := 0) (by omega) hLC hP (by omega)
  refine ⟨S1, ?_, KC.of c3 (fun j q => by have q : j = 23 := q; show j = 1 ∨ j = 19 ∨ j = 23 ∨ (54 ≤ j ∧ j ≤ 73) ∨ (75 ≤ j ∧ j ≤ 81); omega)⟩
  have h0 := hLB.1
  unfold f_X10_matchedBits
  rw [c1, bI_of]
  exact bitsC_loop h0 (by rw [c3.at (by decide)]; exact hLC.1) c2 (mtF_in h1 hn hb) nl.toNat N 0 0 (by omega) (by omega) (by omega)
theorem matched_of (M : Nat) (hLB : LnB nl r pl) (h1 : 1 ≤ n) (hn : n ≤ 48) (hb : CvB n s) (hz : 0 ≤ z ∧ z ≤ 999) (hL : LnM S nl r pl) (hc : CvM S 8 n s z) (hM : 500 ≤ M) : ∃ S', f_X11_matched M S = some (mbF (mtF n s z nl pl r 0) nl.toNat 0 0, S') ∧ KM S S' := by
  obtain ⟨S1, e1, e2, e3, e4⟩ := findsM_of M hc hb h1 hn hz.1 hz.2 hLB hL hM
  refine ⟨S1, ?_, KM.of e4 (fun j q => by have q : 13 ≤ j ∧ j ≤ 21 := q; omega) (fun k q => by have q : k = 35 ∨ k = 38 ∨ k = 41 := q; omega)⟩
  have h0 := hLB.1
  unfold f_X11_matched
  rw [e1, bV_of]
  exact bitsM_loop h0 (by rw [e4.2.2 27 (by decide)]; exact hL.1) (fun i x y => e3.1 i x (by omega)) (mtF_in h1 hn hb) nl.toNat M 0 0 (by omega) (by omega) (by omega) ⟨by decide, by decide⟩
theorem missed_both (N M : Nat) (hN : 2000 ≤ N) (hM : 2000 ≤ M) (hB : B ≤ 50000) (H : RelB B Sc Sm) : ∃ (v : Int) (Sc' Sm' : S2), f_X10_missed N Sc = some (v, Sc') ∧ f_X11_missed M Sm = some (v, Sm') ∧ RelB (B + 40) Sc' Sm' := by
  obtain ⟨-, -, -, ⟨n, z, s, cur, -⟩, ⟨nl, r, pl, ln⟩, -⟩ := id H
  have i29 := cur.2.2.2.2.2.1
  obtain ⟨⟨n0, n48⟩, hb, hz, hc, hm, hi, hP, hQ⟩ := id cur
  by_cases g0 : n = 0
  · rw [if_pos g0] at i29
    refine ⟨-1, Sc, Sm, ?_, ?_, H.up (by omega)⟩
    · unfold f_X10_missed
      rw [noTrace_y _ cur g0]
      simp (disch := omega) only [gI, uI, cI_of, aI_of, sI_of, mnI_of, mxI_of, abI_of, dvI_of, rmI_of, bI_of, bV_of, rI, rV, rL, rP, rT, rZ_of, rC_of, if_pos, if_neg, if_true, if_false]
    · unfold f_X11_missed
      simp (disch := omega) only [i29, gI, uI, cI_of, aI_of, sI_of, mnI_of, mxI_of, abI_of, dvI_of, rmI_of, bI_of, bV_of, rI, rV, rL, rP, rT, rZ_of, rC_of, if_pos, if_neg, if_true, if_false]
  · rw [if_neg g0] at i29
    have n1 : 1 ≤ n := by omega
    obtain ⟨hLB, hLC, hLM, -⟩ := id ln
    have e20 := hLC.1
    have e27 := hLM.1
    obtain ⟨Sc1, c1, c2⟩ := matchedBits_of N hLB n1 n48 hb hLC (hP n1) (by omega)
    obtain ⟨Sm1, m1, m2⟩ := matched_of M hLB n1 n48 hb hz hLM hm (by omega)
    refine ⟨bz (iz ((bz (iz 1 <<< (iz nl &&& 31))) - 1) &&& iz (bz (iz (mbF (mtF n s z nl pl r 0) nl.toNat 0 0) ^^^ iz (-1)))), Sc1, Sm1, ?_, ?_, (H.keep c2 m2).up (by omega)⟩
    · unfold f_X10_missed
      rw [noTrace_n _ cur n1]
      simp (disch := omega) only [bI_of, cI_of, if_true, if_pos, gI, e20, c1, rI]
    · unfold f_X11_missed
      simp (disch := omega) only [bI_of, cI_of, if_false, if_neg, gI, i29, e27, m1, rI]
theorem op_missed (hB : B ≤ 50000) : Op_missed (RelB B) (RelB (B + 40)) := fun Sc Sm H => ⟨2000, 2000, missed_both 2000 2000 (by decide) (by decide) hB H⟩
theorem most_both (N M : Nat) (hN : 2000 ≤ N) (hM : 2000 ≤ M) (hB : B ≤ 50000) (H : RelB B Sc Sm) {a1 : Int} (h1 : inR a1) : ∃ (v : Int) (Sc' Sm' : S2), f_X10_most N Sc a1 = some (v, Sc') ∧ f_X11_most M Sm a1 = some (v, Sm') ∧ RelB (B + 40) Sc' Sm' := by
  obtain ⟨-, -, -, ⟨n, z, s, cur, -⟩, ⟨nl, r, pl, ln⟩, -⟩ := id H
  have i29 := cur.2.2.2.2.2.1
  have ha1 := h1.1
  have ha2 := h1.2
  obtain ⟨⟨n0, n48⟩, hb, hz, hc, hm, hi, hP, hQ⟩ := id cur
  by_cases g0 : n = 0
  · rw [if_pos g0] at i29
    refine ⟨-1000000, Sc, Sm, ?_, ?_, H.up (by omega)⟩
    · unfold f_X10_most
      rw [noTrace_y _ cur g0]
      simp (disch := omega) only [gI, uI, cI_of, aI_of, sI_of, mnI_of, mxI_of, abI_of, dvI_of, rmI_of, bI_of, bV_of, rI, rV, rL, rP, rT, rZ_of, rC_of, if_pos, if_neg, if_true, if_false]
    · unfold f_X11_most
      simp (disch := omega) only [i29, gI, uI, cI_of, aI_of, sI_of, mnI_of, mxI_of, abI_of, dvI_of, rmI_of, bI_of, bV_of, rI, rV, rL, rP, rT, rZ_of, rC_of, if_pos, if_neg, if_true, if_false]
  · rw [if_neg g0] at i29
    have n1 : 1 ≤ n := by omega
    have hP := hP n1
    obtain ⟨hLB, hLC, hLM, -⟩ := id ln
    have pf := (pk_facts n1 n48 hb).1
    have kk := pkK_in (z := z) n1 n48 hb
    have e60 := hP.1
    have e61 := hP.2.1
    obtain ⟨Sm1, e1, e2, e3, e4, e5, e6⟩ := finds_rel M cur n1 ln (by omega)
    by_cases gr : 0 ≤ a1 ∧ a1 ≤ 7
    · by_cases g5 : a1 = 5
      · obtain ⟨Sc1, c1, c2⟩ := matchedBits_of N hLB n1 n48 hb hLC hP (by omega)
        obtain ⟨Sm2, m1, m2⟩ := matched_of M hLB n1 n48 hb hz e5 e4 (by omega)
        refine ⟨mbF (mtF n s z nl pl r 0) nl.toNat 0 0, Sc1, Sm2, ?_, ?_, (H.keep c2 (e6.trans m2)).up (by omega)⟩
        · unfold f_X10_most
          rw [noTrace_n _ cur n1]
          simp (disch := omega) only [c1, gI, uI, cI_of, aI_of, sI_of, mnI_of, mxI_of, abI_of, dvI_of, rmI_of, bI_of, bV_of, rI, rV, rL, rP, rT, rZ_of, rC_of, if_pos, if_neg, if_true, if_false]
        · unfold f_X11_most
          simp (disch := omega) only [i29, in_y M, e1, m1, gI, uI, cI_of, aI_of, sI_of, mnI_of, mxI_of, abI_of, dvI_of, rmI_of, bI_of, bV_of, rI, rV, rL, rP, rT, rZ_of, rC_of, if_pos, if_neg, if_true, if_false]
      · refine ⟨if a1 = 0 then sumF (qP n s) (pkK n s z).toNat 0 0 else if a1 = 1 then sumF (qL n s) (pkC n s).toNat 0 0 else if a1 = 2 then sumF (qL n s) (pkK n s z).toNat 0 0 else if a1 = 3 then sumF (arQ n s z) (pkK n s z).toNat 0 0 else if a1 = 4 then maxF (qG n s) (pkC n s).toNat 0 0 else if a1 = 6 then wdF (wdQ n s) ((pkK n s z).toNat - 1) 1 0 else maxF s n.toNat 0 0, Sc, Sm1, ?_, ?_, (H.keep KC.refl e6).up (by omega)⟩
        · unfold f_X10_most
          rw [noTrace_n _ cur n1]
          rcases (show a1 = 0 ∨ a1 = 1 ∨ a1 = 2 ∨ a1 = 3 ∨ a1 = 4 ∨ a1 = 6 ∨ a1 = 7 by omega) with g | g | g | g | g | g | g
          · have e := sumPlaces_of N hP n1 n48 hb (by omega)
            simp (disch := omega) only [e, gI, uI, cI_of, aI_of, sI_of, mnI_of, mxI_of, abI_of, dvI_of, rmI_of, bI_of, bV_of, rI, rV, rL, rP, rT, rZ_of, rC_of, if_pos, if_neg, if_true, if_false]
          · have e := sumPers_of N hP n1 n48 hb (m := pkC n s) (by omega) (by omega) (by omega)
            simp (disch := omega) only [e60, e, gI, uI, cI_of, aI_of, sI_of, mnI_of, mxI_of, abI_of, dvI_of, rmI_of, bI_of, bV_of, rI, rV, rL, rP, rT, rZ_of, rC_of, if_pos, if_neg, if_true, if_false]
          · have e := sumPers_of N hP n1 n48 hb (m := pkK n s z) (by omega) (by omega) (by omega)
            simp (disch := omega) only [e61, e, gI, uI, cI_of, aI_of, sI_of, mnI_of, mxI_of, abI_of, dvI_of, rmI_of, bI_of, bV_of, rI, rV, rL, rP, rT, rZ_of, rC_of, if_pos, if_neg, if_true, if_false]
          · have e := sumAreas_of N hc hP n1 n48 hb (by omega)
            simp (disch := omega) only [e, gI, uI, cI_of, aI_of, sI_of, mnI_of, mxI_of, abI_of, dvI_of, rmI_of, bI_of, bV_of, rI, rV, rL, rP, rT, rZ_of, rC_of, if_pos, if_neg, if_true, if_false]
          · have e := greatestGen_of N hP n1 n48 hb (by omega)
            simp (disch := omega) only [e, gI, uI, cI_of, aI_of, sI_of, mnI_of, mxI_of, abI_of, dvI_of, rmI_of, bI_of, bV_of, rI, rV, rL, rP, rT, rZ_of, rC_of, if_pos, if_neg, if_true, if_false]
          · have e := widestKept_of N hc hP n1 n48 hb (by omega)
            simp (disch := omega) only [e, gI, uI, cI_of, aI_of, sI_of, mnI_of, mxI_of, abI_of, dvI_of, rmI_of, bI_of, bV_of, rI, rV, rL, rP, rT, rZ_of, rC_of, if_pos, if_neg, if_true, if_false]
          · have e := greatestSample_of N hc hb n0 n48 (by omega)
            simp (disch := omega) only [e, gI, uI, cI_of, aI_of, sI_of, mnI_of, mxI_of, abI_of, dvI_of, rmI_of, bI_of, bV_of, rI, rV, rL, rP, rT, rZ_of, rC_of, if_pos, if_neg, if_true, if_false]
        · unfold f_X11_most
          rcases (show (a1 = 0 ∨ a1 = 1 ∨ a1 = 2 ∨ a1 = 3) ∨ a1 = 4 ∨ a1 = 6 ∨ a1 = 7 by omega) with g | g | g | g
          · have e := added_of M e4 e2 n1 n48 hb (w := a1) g (by omega)
            rcases g with g | g | g | g
            · simp (disch := omega) only [i29, in_y M, e1, e, gI, uI, cI_of, aI_of, sI_of, mnI_of, mxI_of, abI_of, dvI_of, rmI_of, bI_of, bV_of, rI, rV, rL, rP, rT, rZ_of, rC_of, if_pos, if_neg, if_true, if_false]
            · simp (disch := omega) only [i29, in_y M, e1, e, gI, uI, cI_of, aI_of, sI_of, mnI_of, mxI_of, abI_of, dvI_of, rmI_of, bI_of, bV_of, rI, rV, rL, rP, rT, rZ_of, rC_of, if_pos, if_neg, if_true, if_false]
            · simp (disch := omega) only [i29, in_y M, e1, e, gI, uI, cI_of, aI_of, sI_of, mnI_of, mxI_of, abI_of, dvI_of, rmI_of, bI_of, bV_of, rI, rV, rL, rP, rT, rZ_of, rC_of, if_pos, if_neg, if_true, if_false]
            · simp (disch := omega) only [i29, in_y M, e1, e, gI, uI, cI_of, aI_of, sI_of, mnI_of, mxI_of, abI_of, dvI_of, rmI_of, bI_of, bV_of, rI, rV, rL, rP, rT, rZ_of, rC_of, if_pos, if_neg, if_true, if_false]
          · have e := lastGen_of M e2 n1 n48 hb (by omega)
            simp (disch := omega) only [i29, in_y M, e1, e, gI, uI, cI_of, aI_of, sI_of, mnI_of, mxI_of, abI_of, dvI_of, rmI_of, bI_of, bV_of, rI, rV, rL, rP, rT, rZ_of, rC_of, if_pos, if_neg, if_true, if_false]
          · have e := widest_of M e4 e2 n1 n48 hb (by omega)
            simp (disch := omega) only [i29, in_y M, e1, e, gI, uI, cI_of, aI_of, sI_of, mnI_of, mxI_of, abI_of, dvI_of, rmI_of, bI_of, bV_of, rI, rV, rL, rP, rT, rZ_of, rC_of, if_pos, if_neg, if_true, if_false]
          · have e := greatestM_of M e4 hb n0 n48 (by omega)
            simp (disch := omega) only [i29, in_y M, e1, e, gI, uI, cI_of, aI_of, sI_of, mnI_of, mxI_of, abI_of, dvI_of, rmI_of, bI_of, bV_of, rI, rV, rL, rP, rT, rZ_of, rC_of, if_pos, if_neg, if_true, if_false]
    · refine ⟨-1000000, Sc, Sm, ?_, ?_, H.up (by omega)⟩
      · unfold f_X10_most
        rw [noTrace_n _ cur n1]
        simp (disch := omega) only [gI, uI, cI_of, aI_of, sI_of, mnI_of, mxI_of, abI_of, dvI_of, rmI_of, bI_of, bV_of, rI, rV, rL, rP, rT, rZ_of, rC_of, if_pos, if_neg, if_true, if_false]
      · unfold f_X11_most
        simp (disch := omega) only [i29, in_n M, gI, uI, cI_of, aI_of, sI_of, mnI_of, mxI_of, abI_of, dvI_of, rmI_of, bI_of, bV_of, rI, rV, rL, rP, rT, rZ_of, rC_of, if_pos, if_neg, if_true, if_false]
theorem op_most (hB : B ≤ 50000) : Op_most (RelB B) (RelB (B + 40)) := fun Sc Sm H a1 h1 => ⟨2000, 2000, most_both 2000 2000 (by decide) (by decide) hB H h1⟩
/-! room -/
theorem kb_fld {L : Int → Int} {v : Int} : ∀ (d : Nat) (k a : Int), (∀ j, k ≤ j → j < k + d → L j ≤ v) → fld (fun a k => if v < L k then a + 1 else a) d k a = a
  | 0, k, a, _ => rfl
  | d + 1, k, a, h => by
    rw [fld, if_neg (by have := h k (by omega) (by omega); omega)]
    exact kb_fld d (k + 1) a (fun j x y => h j (by omega) (by omega))
theorem kb_eq {L : Int → Int} {v : Int} : ∀ (d : Nat) (k : Int), (∀ i j, k ≤ i → i ≤ j → j < k + d → L j ≤ L i) → fld (fun a k => if v < L k then a + 1 else a) d k k = kpF L v d k
  | 0, k, _ => rfl
  | d + 1, k, h => by
    rw [fld, kpF]
    by_cases g : v < L k
    · rw [if_pos g, if_pos g]
      exact kb_eq d (k + 1) (fun i j x y w => h i j (by omega) y (by omega))
    · rw [if_neg g, if_neg g]
      exact kb_fld d (k + 1) k (fun j x y => by have := h k j (Int.le_refl k) (by omega) (by omega); omega)
theorem keptBy_of (M : Nat) (hc : CvM S 8 n s z) (hM2 : MPk S n s z) (h1 : 1 ≤ n) (hn : n ≤ 48) (hb : CvB n s) {v : Int} (hv : 0 ≤ v ∧ v ≤ 999) (hM : 100 ≤ M) : f_X11_keptBy M S v = some (pkK n s v, S) := by
  have pf := (pk_facts h1 hn hb).1
  have e0 := hM2.1.1
  have loop : ∀ (d N : Nat) (i a : Int), 1 ≤ i → i + d = pkC n s → d < N → f_X11_keptBy_4 N v a i S = some (fld (fun a k => if v < qL n s k then a + 1 else a) d i a, S) := by
    intro d
    induction d with
    | zero =>
      intro N i a hi0 hi hN
      obtain ⟨N, rfl⟩ : ∃ M, N = M + 1 := ⟨N - 1, by omega⟩
      rw [f_X11_keptBy_4]
      simp (disch := omega) only [e0, gI, uI, cI_of, aI_of, sI_of, mnI_of, mxI_of, abI_of, dvI_of, rmI_of, bI_of, bV_of, rI, rV, rL, rP, rT, rZ_of, rC_of, if_pos, if_neg, if_true, if_false]
      rfl
    | succ d ih =>
      intro N i a hi0 hi hN
      obtain ⟨N, rfl⟩ : ∃ M, N = M + 1 := ⟨N - 1, by omega⟩
      have el := lifeK_of N hc hM2 h1 hn hb (by omega : 0 ≤ i) (by omega : i < pkC n s)
      have q := (q_in h1 hn hb (by omega : 0 ≤ i) (by omega : i < pkC n s)).2.2.1
      rw [fld]
      by_cases g : qL n s i ≤ v
      · rw [if_neg (by omega), ← ih N (i + 1) a (by omega) (by omega) (by omega), f_X11_keptBy_4]
        simp (disch := omega) only [e0, el, f_X11_keptBy_27, gI, uI, cI_of, aI_of, sI_of, mnI_of, mxI_of, abI_of, dvI_of, rmI_of, bI_of, bV_of, rI, rV, rL, rP, rT, rZ_of, rC_of, if_pos, if_neg, if_true, if_false]
        rw [Int.add_zero]
      · rw [if_pos (by omega), ← ih N (i + 1) (a + 1) (by omega) (by omega) (by omega), f_X11_keptBy_4]
        simp (disch := omega) only [e0, el, f_X11_keptBy_27, gI, uI, cI_of, aI_of, sI_of, mnI_of, mxI_of, abI_of, dvI_of, rmI_of, bI_of, bV_of, rI, rV, rL, rP, rT, rZ_of, rC_of, if_pos, if_neg, if_true, if_false]
  unfold f_X11_keptBy
  rw [loop ((pkC n s).toNat - 1) M 1 1 (by omega) (by omega) (by omega), kb_eq (L := qL n s) ((pkC n s).toNat - 1) 1 (fun i j x y w => pkL_falls h1 hn hb x y (by omega))]
  rfl
/-- kept under v as under z -/
theorem pkK_same (h1 : 1 ≤ n) (hn : n ≤ 48) (hb : CvB n s) {v : Int} : pkK n s v = pkK n s z ↔ ((1 < pkK n s z → v < qL n s (pkK n s z - 1)) ∧ (pkK n s z < pkC n s → qL n s (pkK n s z) ≤ v)) := by
  have pf := (pk_facts h1 hn hb).1
  have kz := kpF_in (L := qL n s) (z := z) ((pkC n s).toNat - 1) 1
  have kv := kpF_in (L := qL n s) (z := v) ((pkC n s).toNat - 1) 1
  have ez : kpF (qL n s) z ((pkC n s).toNat - 1) 1 = pkK n s z := rfl
  have ev : kpF (qL n s) v ((pkC n s).toNat - 1) 1 = pkK n s v := rfl
  rw [ez] at kz
  rw [ev] at kv
  have fall : ∀ i j, 1 ≤ i → i ≤ j → j < pkC n s → qL n s j ≤ qL n s i := fun i j a b c => pkL_falls h1 hn hb a b c
  constructor
  · intro h
    rw [h] at kv
    exact ⟨fun g => kv.2.1 (pkK n s z - 1) (by omega) (by omega), fun g => kv.2.2 (by omega)⟩
  · rintro ⟨g1, g2⟩
    rcases Int.lt_trichotomy (pkK n s v) (pkK n s z) with g | g | g
    · exfalso
      have a1 := kv.2.2 (by omega)
      have a2 := fall (pkK n s v) (pkK n s z - 1) (by omega) (by omega) (by omega)
      have a3 := g1 (by omega)
      omega
    · exact g
    · exfalso
      have a1 := kv.2.1 (pkK n s z) (by omega) g
      have a2 := g2 (by omega)
      omega
theorem room_loop (hc : CvM S 8 n s z) (hM2 : MPk S n s z) (h1 : 1 ≤ n) (hn : n ≤ 48) (hb : CvB n s) (hz : 0 ≤ z ∧ z ≤ 999) {by_ R : Int} (hby : by_ = 1 ∨ by_ = -1) (h0R : 0 ≤ R ∧ R ≤ 999) (hin : ∀ x, 0 ≤ x → x < R → (0 ≤ z + (x + 1) * by_ ∧ z + (x + 1) * by_ ≤ 999) ∧ pkK n s (z + (x + 1) * by_) = pkK n s z) (hout : 0 ≤ z + (R + 1) * by_ → z + (R + 1) * by_ ≤ 999 → pkK n s (z + (R + 1) * by_) ≠ pkK n s z) : ∀ (d N : Nat) (x : Int), 0 ≤ x → x + d = R → d + 200 < N → f_X11_room_34 N by_ x S = some (R, S) := by
  have e49 := hc.2.1
  have e38 := hM2.2.2
  have kk := fun v => pkK_in (z := v) h1 hn hb
  have pf := (pk_facts h1 hn hb).1
  have ck : ∀ v w, cI (pkK n s v) (pkK n s z) w = (w : Option (Int × S2)) := fun v w => by
    have a := kk v; have b := kk z
    exact cI_of (by omega) (by omega) (by omega) (by omega)
  intro d
  induction d with
  | zero =>
    intro N x hx0 hx hN
    obtain ⟨N, rfl⟩ : ∃ M, N = M + 1 := ⟨N - 1, by omega⟩
    have hx : x = R := by omega
    subst hx
    obtain ⟨v, hv⟩ : ∃ v, v = z + (x + 1) * by_ := ⟨_, rfl⟩
    rw [← hv] at hout
    have vb : -2000 ≤ v ∧ v ≤ 3000 := by rcases hby with g | g <;> subst g <;> omega
    rw [f_X11_room_34]
    simp (disch := omega) only [aI_of, e49]
    rw [← hv]
    by_cases g : 0 ≤ v ∧ v ≤ 999
    · have ne := hout g.1 g.2
      have eb := keptBy_of N hc hM2 h1 hn hb g (by omega)
      simp (disch := omega) only [in_y N, bI_of, cI_of, if_neg, if_false, aI_of, e49]
      rw [← hv, eb]
      simp (disch := omega) only [bI_of, gI, e38]
      rw [ck, if_neg ne]
      rfl
    · simp (disch := omega) only [in_n N, gI, uI, cI_of, aI_of, sI_of, mnI_of, mxI_of, abI_of, dvI_of, rmI_of, bI_of, bV_of, rI, rV, rL, rP, rT, rZ_of, rC_of, if_pos, if_neg, if_true, if_false]
  | succ d ih =>
    intro N x hx0 hx hN
    obtain ⟨N, rfl⟩ : ∃ M, N = M + 1 := ⟨N - 1, by omega⟩
    obtain ⟨g1, g2⟩ := hin x hx0 (by omega)
    obtain ⟨v, hv⟩ : ∃ v, v = z + (x + 1) * by_ := ⟨_, rfl⟩
    rw [← hv] at g1 g2
    have eb := keptBy_of N hc hM2 h1 hn hb g1 (by omega)
    rw [← ih N (x + 1) (by omega) (by omega) (by omega), f_X11_room_34]
    simp (disch := omega) only [aI_of, e49]
    rw [← hv]
    simp (disch := omega) only [in_y N, bI_of, cI_of, if_neg, if_false, aI_of, e49]
    rw [← hv, eb]
    simp (disch := omega) only [bI_of, gI, e38]
    rw [ck, if_pos g2]
theorem room_both (N M : Nat) (hN : 2000 ≤ N) (hM : 2000 ≤ M) (hB : B ≤ 50000) (H : RelB B Sc Sm) {a1 : Int} (h1 : inR a1) : ∃ (v : Int) (Sc' Sm' : S2), f_X10_room N Sc a1 = some (v, Sc') ∧ f_X11_room M Sm a1 = some (v, Sm') ∧ RelB (B + 40) Sc' Sm' := by
  obtain ⟨-, -, -, ⟨n, z, s, cur, -⟩, ⟨nl, r, pl, ln⟩, -⟩ := id H
  have i29 := cur.2.2.2.2.2.1
  have ha1 := h1.1
  have ha2 := h1.2
  obtain ⟨⟨n0, n48⟩, hb, hz, hc, hm, hi, hP, hQ⟩ := id cur
  by_cases g0 : n = 0
  · rw [if_pos g0] at i29
    refine ⟨-1, Sc, Sm, ?_, ?_, H.up (by omega)⟩
    · unfold f_X10_room
      rw [noTrace_y _ cur g0]
      simp (disch := omega) only [gI, uI, cI_of, aI_of, sI_of, mnI_of, mxI_of, abI_of, dvI_of, rmI_of, bI_of, bV_of, rI, rV, rL, rP, rT, rZ_of, rC_of, if_pos, if_neg, if_true, if_false]
    · unfold f_X11_room
      simp (disch := omega) only [i29, gI, uI, cI_of, aI_of, sI_of, mnI_of, mxI_of, abI_of, dvI_of, rmI_of, bI_of, bV_of, rI, rV, rL, rP, rT, rZ_of, rC_of, if_pos, if_neg, if_true, if_false]
  · rw [if_neg g0] at i29
    have n1 : 1 ≤ n := by omega
    have hP := hP n1
    have pf := (pk_facts n1 n48 hb).1
    have kk := pkK_in (z := z) n1 n48 hb
    have e60 := hP.1
    have e61 := hP.2.1
    have e42 := hc.2.1
    obtain ⟨Sm1, e1, e2, e3, e4, e5, e6⟩ := finds_rel M cur n1 ln (by omega)
    have same := fun v => pkK_same (z := z) n1 n48 hb (v := v)
    have zs := (same z).mp rfl
    by_cases gA : a1 = 0
    · obtain ⟨R, hR⟩ : ∃ R, R = (if 1 < pkK n s z then qL n s (pkK n s z - 1) - 1 else 999) - z := ⟨_, rfl⟩
      have ql : 1 < pkK n s z → 0 ≤ qL n s (pkK n s z - 1) ∧ qL n s (pkK n s z - 1) ≤ 999 := fun g => (q_in n1 n48 hb (by omega : 0 ≤ pkK n s z - 1) (by omega)).2.2.1
      have hRb : 0 ≤ R ∧ R ≤ 999 := by
        by_cases g : 1 < pkK n s z
        · rw [if_pos g] at hR; have := zs.1 g; have := ql g; omega
        · rw [if_neg g] at hR; omega
      have em := room_loop e4 e2 n1 n48 hb hz (by_ := 1) (R := R) (Or.inl rfl) hRb (fun x x0 xR => by
        refine ⟨?_, (same _).mpr ⟨fun g => ?_, fun g => ?_⟩⟩
        · by_cases g : 1 < pkK n s z
          · rw [if_pos g] at hR; have := ql g; omega
          · rw [if_neg g] at hR; omega
        · rw [if_pos g] at hR; omega
        · have := zs.2 g; omega) (fun a b e => by
        have q := (same _).mp e
        by_cases g : 1 < pkK n s z
        · rw [if_pos g] at hR; have := q.1 g; omega
        · rw [if_neg g] at hR; omega) R.toNat M 0 (by omega) (by omega) (by omega)
      refine ⟨R, Sc, Sm1, ?_, ?_, (H.keep KC.refl e6).up (by omega)⟩
      · unfold f_X10_room
        rw [noTrace_n _ cur n1, hR]
        by_cases g : 1 < pkK n s z
        · have el : f_X5_persistenceOf N Sc 6 (pkK n s z - 1) = some (qL n s (pkK n s z - 1), Sc) := persC_of N hP n1 n48 hb (by omega) (by omega)
          simp (disch := omega) only [e61, el, f_X10_room_43, e42, gI, uI, cI_of, aI_of, sI_of, mnI_of, mxI_of, abI_of, dvI_of, rmI_of, bI_of, bV_of, rI, rV, rL, rP, rT, rZ_of, rC_of, if_pos, if_neg, if_true, if_false]
        · simp (disch := omega) only [e61, f_X10_room_43, e42, gI, uI, cI_of, aI_of, sI_of, mnI_of, mxI_of, abI_of, dvI_of, rmI_of, bI_of, bV_of, rI, rV, rL, rP, rT, rZ_of, rC_of, if_pos, if_neg, if_true, if_false]
      · unfold f_X11_room
        simp (disch := omega) only [i29, in_y M, e1, f_X11_room_31, gI, uI, cI_of, aI_of, sI_of, mnI_of, mxI_of, abI_of, dvI_of, rmI_of, bI_of, bV_of, rI, rV, rL, rP, rT, rZ_of, rC_of, if_pos, if_neg, if_true, if_false]
        exact em
    · by_cases gB : a1 = 1
      · obtain ⟨R, hR⟩ : ∃ R, R = z - (if pkK n s z < pkC n s then qL n s (pkK n s z) else 0) := ⟨_, rfl⟩
        have ql : pkK n s z < pkC n s → 0 ≤ qL n s (pkK n s z) ∧ qL n s (pkK n s z) ≤ 999 := fun g => (q_in n1 n48 hb (by omega : 0 ≤ pkK n s z) g).2.2.1
        have hRb : 0 ≤ R ∧ R ≤ 999 := by
          by_cases g : pkK n s z < pkC n s
          · rw [if_pos g] at hR; have := zs.2 g; have := ql g; omega
          · rw [if_neg g] at hR; omega
        have em := room_loop e4 e2 n1 n48 hb hz (by_ := -1) (R := R) (Or.inr rfl) hRb (fun x x0 xR => by
          refine ⟨?_, (same _).mpr ⟨fun g => ?_, fun g => ?_⟩⟩
          · by_cases g : pkK n s z < pkC n s
            · rw [if_pos g] at hR; have := ql g; omega
            · rw [if_neg g] at hR; omega
          · have := zs.1 g; omega
          · rw [if_pos g] at hR; omega) (fun a b e => by
          have q := (same _).mp e
          by_cases g : pkK n s z < pkC n s
          · rw [if_pos g] at hR; have := q.2 g; omega
          · rw [if_neg g] at hR; omega) R.toNat M 0 (by omega) (by omega) (by omega)
        refine ⟨R, Sc, Sm1, ?_, ?_, (H.keep KC.refl e6).up (by omega)⟩
        · unfold f_X10_room
          rw [noTrace_n _ cur n1, hR]
          by_cases g : pkK n s z < pkC n s
          · have el : f_X5_persistenceOf N Sc 6 (pkK n s z) = some (qL n s (pkK n s z), Sc) := persC_of N hP n1 n48 hb (by omega) g
            simp (disch := omega) only [e60, e61, el, f_X10_room_95, e42, gI, uI, cI_of, aI_of, sI_of, mnI_of, mxI_of, abI_of, dvI_of, rmI_of, bI_of, bV_of, rI, rV, rL, rP, rT, rZ_of, rC_of, if_pos, if_neg, if_true, if_false]
          · simp (disch := omega) only [e60, e61, f_X10_room_95, e42, gI, uI, cI_of, aI_of, sI_of, mnI_of, mxI_of, abI_of, dvI_of, rmI_of, bI_of, bV_of, rI, rV, rL, rP, rT, rZ_of, rC_of, if_pos, if_neg, if_true, if_false]
        · unfold f_X11_room
          simp (disch := omega) only [i29, in_y M, e1, f_X11_room_31, gI, uI, cI_of, aI_of, sI_of, mnI_of, mxI_of, abI_of, dvI_of, rmI_of, bI_of, bV_of, rI, rV, rL, rP, rT, rZ_of, rC_of, if_pos, if_neg, if_true, if_false]
          exact em
      · refine ⟨-1, Sc, Sm, ?_, ?_, H.up (by omega)⟩
        · unfold f_X10_room
          rw [noTrace_n _ cur n1]
          simp (disch := omega) only [gI, uI, cI_of, aI_of, sI_of, mnI_of, mxI_of, abI_of, dvI_of, rmI_of, bI_of, bV_of, rI, rV, rL, rP, rT, rZ_of, rC_of, if_pos, if_neg, if_true, if_false]
        · unfold f_X11_room
          simp (disch := omega) only [i29, in_n M, gI, uI, cI_of, aI_of, sI_of, mnI_of, mxI_of, abI_of, dvI_of, rmI_of, bI_of, bV_of, rI, rV, rL, rP, rT, rZ_of, rC_of, if_pos, if_neg, if_true, if_false]
theorem op_room (hB : B ≤ 50000) : Op_room (RelB B) (RelB (B + 40)) := fun Sc Sm H a1 h1 => ⟨2000, 2000, room_both 2000 2000 (by decide) (by decide) hB H h1⟩
end ASK3
