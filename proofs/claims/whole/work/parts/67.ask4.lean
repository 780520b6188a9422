/-! what is asked: shift, would, change -/
theorem dvI_neg {α : Type} {x y : Int} {K : Int → Option α} (h1 : -2147483648 ≤ x) (h2 : x < 0) (h3 : 0 < y) (h4 : y ≤ 2147483647) : dvI x y K = K (-(-x / y)) := by
  unfold dvI; rw [if_pos ⟨⟨h1, by omega⟩, h3, h4⟩, if_neg (by omega)]
/-- the best of -far, far, -far-1, .. -/
def shF (c : Int → Int) : Nat → Int → Int → Int → Int × Int
  | 0, _, b, m => (b, m)
  | d + 1, far, b, m => shF c d (far + 1) (if (if m < c (-far) then c (-far) else m) < c far then far else if m < c (-far) then -far else b) (if (if m < c (-far) then c (-far) else m) < c far then c far else if m < c (-far) then c (-far) else m)
section ASK4
variable {S Sc Sm : S2} {n z nl r B : Int} {s pl : Int → Int}
theorem shiftC_loop {x1 : Int} {c : Int → Int} (hc : c = fun b => cntT nl (mtF n s z nl pl r b)) (hLB : LnB nl r pl) (h1 : 1 ≤ n) (hn : n ≤ 48) (hb : CvB n s) : ∀ (d N : Nat) (far b m : Int) (S : S2), 1 ≤ far → far + d = 10 → d + 500 < N → LnC S nl r pl → CP S 6 n s z → 0 ≤ m → m ≤ 8 → ∃ S', (∀ K, f_X10_shift_38 K N x1 b m far S = K x1 (shF c d far b m).1 (shF c d far b m).2 S') ∧ Fr is23 S S' := by
  obtain ⟨⟨l0, l8⟩, -⟩ := id hLB
  have cb : ∀ x, 0 ≤ c x ∧ c x ≤ nl := fun x => by rw [hc]; exact cntT_in l0
  intro d
  induction d with
  | zero =>
    intro N far b m S h0 hf hN hLC hP m0 m8
    obtain ⟨N, rfl⟩ : ∃ M, N = M + 1 := ⟨N - 1, by omega⟩
    refine ⟨S, fun K => ?_, Fr.refl⟩
    rw [f_X10_shift_38]
    simp (disch := omega) only [gI, uI, cI_of, aI_of, sI_of, mnI_of, mxI_of, abI_of, dvI_of, rmI_of, bI_of, bV_of, rI, rV, rL, rP, rT, rZ_of, rC_of, if_pos, if_neg, if_true, if_false]
    rfl
  | succ d ih =>
    intro N far b m S h0 hf hN hLC hP m0 m8
    obtain ⟨N, rfl⟩ : ∃ M, N = M + 1 := ⟨N - 1, by omega⟩
    obtain ⟨S1, a1, -, a3⟩ := matchC_of N hLB h1 hn hb (by_ := -far) (by omega) hLC hP (by omega)
    have a1 : f_X3_match N S 20 6 (-far) = some (c (-far), S1) := by rw [hc]; exact a1
    have hLC1 := hLC.kept a3 (by decide) (by decide)
    have hP1 := hP.kept a3 (fun j x y q => by have q : j = 23 := q; omega)
    obtain ⟨S2, b1, -, b3⟩ := matchC_of N hLB h1 hn hb (by_ := far) (by omega) hLC1 hP1 (by omega)
    have b1 : f_X3_match N S1 20 6 far = some (c far, S2) := by rw [hc]; exact b1
    have hLC2 := hLC1.kept b3 (by decide) (by decide)
    have hP2 := hP1.kept b3 (fun j x y q => by have q : j = 23 := q; omega)
    have q1 := cb (-far)
    have q2 := cb far
    have s74 : ∀ K b m, 0 ≤ m → m ≤ 8 → f_X10_shift_74 K N x1 b m far S1 = K x1 (if m < c far then far else b) (if m < c far then c far else m) (far + 1) S2 := fun K b m m0 m8 => by
      rw [f_X10_shift_74]
      by_cases g : m < c far
      · rw [if_pos g, if_pos g]
        simp (disch := omega) only [b1, f_X10_shift_101, gI, uI, cI_of, aI_of, sI_of, mnI_of, mxI_of, abI_of, dvI_of, rmI_of, bI_of, bV_of, rI, rV, rL, rP, rT, rZ_of, rC_of, if_pos, if_neg, if_true, if_false]
      · rw [if_neg g, if_neg g]
        simp (disch := omega) only [b1, f_X10_shift_101, gI, uI, cI_of, aI_of, sI_of, mnI_of, mxI_of, abI_of, dvI_of, rmI_of, bI_of, bV_of, rI, rV, rL, rP, rT, rZ_of, rC_of, if_pos, if_neg, if_true, if_false]
    by_cases g : m < c (-far)
    · obtain ⟨S', e1, e2⟩ := ih N (far + 1) (if c (-far) < c far then far else -far) (if c (-far) < c far then c far else c (-far)) S2 (by omega) (by omega) (by omega) hLC2 hP2 (by split <;> omega) (by split <;> omega)
      refine ⟨S', fun K => ?_, (a3.trans b3 (fun _ h => h) (fun _ h => h) (C := is23)).trans e2 (fun _ h => h) (fun _ h => h)⟩
      have es : shF c (d + 1) far b m = shF c d (far + 1) (if c (-far) < c far then far else -far) (if c (-far) < c far then c far else c (-far)) := by
        rw [shF, if_pos g, if_pos g]
      rw [es, ← e1 K, f_X10_shift_38]
      simp (disch := omega) only [cI_of, if_neg, a1, bI_of]
      rw [s74 _ _ _ (by omega) (by omega)]
    · obtain ⟨S', e1, e2⟩ := ih N (far + 1) (if m < c far then far else b) (if m < c far then c far else m) S2 (by omega) (by omega) (by omega) hLC2 hP2 (by split <;> omega) (by split <;> omega)
      refine ⟨S', fun K => ?_, (a3.trans b3 (fun _ h => h) (fun _ h => h) (C := is23)).trans e2 (fun _ h => h) (fun _ h => h)⟩
      have es : shF c (d + 1) far b m = shF c d (far + 1) (if m < c far then far else b) (if m < c far then c far else m) := by
        rw [shF, if_neg g, if_neg g]
      rw [es, ← e1 K, f_X10_shift_38]
      simp (disch := omega) only [cI_of, if_neg, if_pos, a1, bI_of]
      rw [s74 _ _ _ (by omega) (by omega)]
theorem shiftM_one (N : Nat) {x1 : Int} {c : Int → Int} (hc : c = fun b => cntT nl (mtF n s z nl pl r b)) (hLB : LnB nl r pl) (h1 : 1 ≤ n) (hn : n ≤ 48) (hb : CvB n s) {x b m by_ : Int} (hby : -9 ≤ by_ ∧ by_ ≤ 9) (hL : LnM S nl r pl) (hM : MPk S n s z) (m0 : -1 ≤ m) (m8 : m ≤ 8) (hN : 500 ≤ N) : ∃ S', (∀ K, f_X11_shift_59 K N x1 b m x by_ S = K x1 (if m < c by_ then by_ else b) (if m < c by_ then c by_ else m) (x + 1) S') ∧ FrM is2021 f41 S S' := by
  obtain ⟨⟨l0, l8⟩, -⟩ := id hLB
  have cb : ∀ x, 0 ≤ c x ∧ c x ≤ nl := fun x => by rw [hc]; exact cntT_in l0
  have q := cb by_
  obtain ⟨S', e1, e2, e3⟩ := matchM_of N hLB h1 hn hb hby hL hM (by omega)
  have e41 : S'.1 0 41 = c by_ := by rw [hc]; exact e2.2.2
  refine ⟨S', fun K => ?_, e3⟩
  rw [f_X11_shift_59, e1, bV_of]
  by_cases g : m < c by_
  · rw [if_pos g, if_pos g]
    simp (disch := omega) only [e41, f_X11_shift_83, gI, uI, cI_of, aI_of, sI_of, mnI_of, mxI_of, abI_of, dvI_of, rmI_of, bI_of, bV_of, rI, rV, rL, rP, rT, rZ_of, rC_of, if_pos, if_neg, if_true, if_false]
  · rw [if_neg g, if_neg g]
    simp (disch := omega) only [e41, f_X11_shift_83, gI, uI, cI_of, aI_of, sI_of, mnI_of, mxI_of, abI_of, dvI_of, rmI_of, bI_of, bV_of, rI, rV, rL, rP, rT, rZ_of, rC_of, if_pos, if_neg, if_true, if_false]
theorem shiftM_loop {x1 : Int} {c : Int → Int} (hc : c = fun b => cntT nl (mtF n s z nl pl r b)) (hLB : LnB nl r pl) (h1 : 1 ≤ n) (hn : n ≤ 48) (hb : CvB n s) : ∀ (d N : Nat) (far b m : Int) (S : S2), 1 ≤ far → far + d = 10 → 2 * d + 500 < N → LnM S nl r pl → MPk S n s z → 0 ≤ m → m ≤ 8 → ∃ S', (∀ K, f_X11_shift_30 K N x1 b m (2 * far - 1) S = K x1 (shF c d far b m).1 (shF c d far b m).2 S') ∧ FrM is2021 f41 S S' := by
  obtain ⟨⟨l0, l8⟩, -⟩ := id hLB
  have cb : ∀ x, 0 ≤ c x ∧ c x ≤ nl := fun x => by rw [hc]; exact cntT_in l0
  intro d
  induction d with
  | zero =>
    intro N far b m S h0 hf hN hL hM m0 m8
    obtain ⟨N, rfl⟩ : ∃ M, N = M + 1 := ⟨N - 1, by omega⟩
    refine ⟨S, fun K => ?_, FrM.refl⟩
    rw [f_X11_shift_30]
    simp (disch := omega) only [gI, uI, cI_of, aI_of, sI_of, mnI_of, mxI_of, abI_of, dvI_of, rmI_of, bI_of, bV_of, rI, rV, rL, rP, rT, rZ_of, rC_of, if_pos, if_neg, if_true, if_false]
    rfl
  | succ d ih =>
    intro N far b m S h0 hf hN hL hM m0 m8
    obtain ⟨N, rfl⟩ : ∃ M, N = M + 1 := ⟨N - 1, by omega⟩
    obtain ⟨N, rfl⟩ : ∃ M, N = M + 1 := ⟨N - 1, by omega⟩
    have q1 := cb (-far)
    have q2 := cb far
    obtain ⟨b1, hb1⟩ : ∃ b1, b1 = (if m < c (-far) then -far else b) := ⟨_, rfl⟩
    obtain ⟨m1, hm1⟩ : ∃ m1, m1 = (if m < c (-far) then c (-far) else m) := ⟨_, rfl⟩
    have m1b : 0 ≤ m1 ∧ m1 ≤ 8 := by rw [hm1]; split <;> omega
    obtain ⟨S1, a1, a2⟩ := shiftM_one (N + 1) (x1 := x1) (x := 2 * far - 1) (b := b) (m := m) (by_ := -far) hc hLB h1 hn hb (by omega) hL hM (by omega) m8 (by omega)
    rw [← hb1, ← hm1] at a1
    have hL1 := hL.kept a2 (by decide) (by decide) (by decide)
    have hM1 := hM.kept a2 (by decide) (by decide) (by decide) (by decide) (by decide) (by decide) (by decide) (by decide)
    obtain ⟨S2, c1, c2⟩ := shiftM_one N (x1 := x1) (x := 2 * far) (b := b1) (m := m1) (by_ := far) hc hLB h1 hn hb (by omega) hL1 hM1 (by omega) m1b.2 (by omega)
    have hL2 := hL1.kept c2 (by decide) (by decide) (by decide)
    have hM2 := hM1.kept c2 (by decide) (by decide) (by decide) (by decide) (by decide) (by decide) (by decide) (by decide)
    obtain ⟨S', e1, e2⟩ := ih N (far + 1) (if m1 < c far then far else b1) (if m1 < c far then c far else m1) S2 (by omega) (by omega) (by omega) hL2 hM2 (by split <;> omega) (by split <;> omega)
    refine ⟨S', fun K => ?_, (a2.trans c2 (fun _ h => h) (fun _ h => h) (fun _ h => h) (fun _ h => h) (C := is2021) (K := f41)).trans e2 (fun _ h => h) (fun _ h => h) (fun _ h => h) (fun _ h => h)⟩
    have es : shF c (d + 1) far b m = shF c d (far + 1) (if m1 < c far then far else b1) (if m1 < c far then c far else m1) := by
      rw [shF, ← hm1, ← hb1]
    rw [es, ← e1 K, f_X11_shift_30]
    simp (disch := omega) only [cI_of, if_neg, rmI_of, if_pos, dvI_neg]
    rw [show -(-(-(2 * far - 1 + 1)) / 2) = -far by omega, a1, show 2 * far - 1 + 1 = 2 * far by omega, f_X11_shift_30]
    simp (disch := omega) only [cI_of, if_neg, rmI_of, dvI_of]
    rw [show 2 * far / 2 = far by omega, c1, show 2 * far + 1 = 2 * (far + 1) - 1 by omega]
theorem shift_both (N M : Nat) (hN : 2000 ≤ N) (hM : 2000 ≤ M) (hB : B ≤ 50000) (H : RelB B Sc Sm) {a1 : Int} (h1 : inR a1) : ∃ (v : Int) (Sc' Sm' : S2), f_X10_shift N Sc a1 = some (v, Sc') ∧ f_X11_shift M Sm a1 = some (v, Sm') ∧ RelB (B + 40) Sc' Sm' := by
  obtain ⟨-, -, -, ⟨n, z, s, cur, -⟩, ⟨nl, r, pl, ln⟩, -⟩ := id H
  have i29 := cur.2.2.2.2.2.1
  have ha1 := h1.1
  have ha2 := h1.2
  obtain ⟨⟨n0, n48⟩, hb, hz, hc, hm, hi, hP, hQ⟩ := id cur
  by_cases g0 : n = 0
  · rw [if_pos g0] at i29
    refine ⟨-1000000, Sc, Sm, ?_, ?_, H.up (by omega)⟩
    · unfold f_X10_shift
      rw [noTrace_y _ cur g0]
      simp (disch := omega) only [gI, uI, cI_of, aI_of, sI_of, mnI_of, mxI_of, abI_of, dvI_of, rmI_of, bI_of, bV_of, rI, rV, rL, rP, rT, rZ_of, rC_of, if_pos, if_neg, if_true, if_false]
    · unfold f_X11_shift
      simp (disch := omega) only [i29, gI, uI, cI_of, aI_of, sI_of, mnI_of, mxI_of, abI_of, dvI_of, rmI_of, bI_of, bV_of, rI, rV, rL, rP, rT, rZ_of, rC_of, if_pos, if_neg, if_true, if_false]
  · rw [if_neg g0] at i29
    have n1 : 1 ≤ n := by omega
    have hP := hP n1
    obtain ⟨hLB, hLC, hLM, -⟩ := id ln
    obtain ⟨⟨l0, l8⟩, -⟩ := id hLB
    by_cases gr : 0 ≤ a1 ∧ a1 ≤ 1
    · obtain ⟨Sm1, e1, e2, e3, e4, e5, e6⟩ := finds_rel M cur n1 ln (by omega)
      obtain ⟨c, hcc⟩ : ∃ c : Int → Int, c = fun b => cntT nl (mtF n s z nl pl r b) := ⟨_, rfl⟩
      have c0b : 0 ≤ c 0 ∧ c 0 ≤ 8 := by
        have : 0 ≤ c 0 ∧ c 0 ≤ nl := by rw [hcc]; exact cntT_in l0
        omega
      obtain ⟨Sc1, a1', -, a3⟩ := matchC_of N hLB n1 n48 hb (by_ := 0) (by omega) hLC hP (by omega)
      have a1' : f_X3_match N Sc 20 6 0 = some (c 0, Sc1) := by rw [hcc]; exact a1'
      obtain ⟨Sc2, b1, b2⟩ := shiftC_loop (x1 := a1) hcc hLB n1 n48 hb 9 N 1 0 (c 0) Sc1 (by omega) (by omega) (by omega) (hLC.kept a3 (by decide) (by decide)) (hP.kept a3 (fun j x y q => by have q : j = 23 := q; omega)) c0b.1 c0b.2
      obtain ⟨M', rfl⟩ : ∃ M', M = M' + 1 := ⟨M - 1, by omega⟩
      obtain ⟨Sm2, m1, m2⟩ := shiftM_one M' (x1 := a1) (x := 0) (b := 0) (m := -1) (by_ := 0) hcc hLB n1 n48 hb (by omega) e5 e2 (by omega) (by omega) (by omega)
      rw [if_pos (by omega), if_pos (by omega)] at m1
      obtain ⟨Sm3, k1, k2⟩ := shiftM_loop (x1 := a1) hcc hLB n1 n48 hb 9 M' 1 0 (c 0) Sm2 (by omega) (by omega) (by omega) (e5.kept m2 (by decide) (by decide) (by decide)) (e2.kept m2 (by decide) (by decide) (by decide) (by decide) (by decide) (by decide) (by decide) (by decide)) c0b.1 c0b.2
      have kc : KC Sc Sc2 := KC.of (a3.trans b2 (fun _ h => h) (fun _ h => h) (C := is23)) (fun j q => by have q : j = 23 := q; show j = 1 ∨ j = 19 ∨ j = 23 ∨ (54 ≤ j ∧ j ≤ 73) ∨ (75 ≤ j ∧ j ≤ 81); omega)
      have km : KM Sm1 Sm3 := KM.of (m2.trans k2 (fun _ h => h) (fun _ h => h) (fun _ h => h) (fun _ h => h) (C := is2021) (K := f41)) (fun j q => by have q : j = 20 ∨ j = 21 := q; omega) (fun k q => by have q : k = 41 := q; omega)
      refine ⟨if a1 = 0 then (shF c 9 1 0 (c 0)).1 else (shF c 9 1 0 (c 0)).2, Sc2, Sm3, ?_, ?_, (H.keep kc (e6.trans km)).up (by omega)⟩
      · unfold f_X10_shift
        rw [noTrace_n _ cur n1]
        simp (disch := omega) only [bI_of, cI_of, if_true, if_pos, if_neg, a1']
        rw [b1, f_X10_shift_107]
        by_cases g : a1 = 0
        · simp (disch := omega) only [gI, uI, cI_of, aI_of, sI_of, mnI_of, mxI_of, abI_of, dvI_of, rmI_of, bI_of, bV_of, rI, rV, rL, rP, rT, rZ_of, rC_of, if_pos, if_neg, if_true, if_false]
        · simp (disch := omega) only [gI, uI, cI_of, aI_of, sI_of, mnI_of, mxI_of, abI_of, dvI_of, rmI_of, bI_of, bV_of, rI, rV, rL, rP, rT, rZ_of, rC_of, if_pos, if_neg, if_true, if_false]
      · unfold f_X11_shift
        simp (disch := omega) only [gI, bI_of, bV_of, cI_of, if_false, if_neg, i29, in_y (M' + 1), e1]
        rw [f_X11_shift_30]
        simp (disch := omega) only [cI_of, if_neg, rmI_of, dvI_of]
        rw [show (0 : Int) / 2 = 0 by decide, m1, show (0 : Int) + 1 = 2 * 1 - 1 by decide, k1, f_X11_shift_89]
        by_cases g : a1 = 0
        · simp (disch := omega) only [gI, uI, cI_of, aI_of, sI_of, mnI_of, mxI_of, abI_of, dvI_of, rmI_of, bI_of, bV_of, rI, rV, rL, rP, rT, rZ_of, rC_of, if_pos, if_neg, if_true, if_false]
        · simp (disch := omega) only [gI, uI, cI_of, aI_of, sI_of, mnI_of, mxI_of, abI_of, dvI_of, rmI_of, bI_of, bV_of, rI, rV, rL, rP, rT, rZ_of, rC_of, if_pos, if_neg, if_true, if_false]
    · refine ⟨-1000000, Sc, Sm, ?_, ?_, H.up (by omega)⟩
      · unfold f_X10_shift
        rw [noTrace_n _ cur n1]
        by_cases q : a1 < 0
        · simp (disch := omega) only [gI, uI, cI_of, aI_of, sI_of, mnI_of, mxI_of, abI_of, dvI_of, rmI_of, bI_of, bV_of, rI, rV, rL, rP, rT, rZ_of, rC_of, if_pos, if_neg, if_true, if_false]
        · simp (disch := omega) only [gI, uI, cI_of, aI_of, sI_of, mnI_of, mxI_of, abI_of, dvI_of, rmI_of, bI_of, bV_of, rI, rV, rL, rP, rT, rZ_of, rC_of, if_pos, if_neg, if_true, if_false]
      · unfold f_X11_shift
        simp (disch := omega) only [i29, in_n M, gI, uI, cI_of, aI_of, sI_of, mnI_of, mxI_of, abI_of, dvI_of, rmI_of, bI_of, bV_of, rI, rV, rL, rP, rT, rZ_of, rC_of, if_pos, if_neg, if_true, if_false]
theorem op_shift (hB : B ≤ 50000) : Op_shift (RelB B) (RelB (B + 40)) := fun Sc Sm H a1 h1 => ⟨2000, 2000, shift_both 2000 2000 (by decide) (by decide) hB H h1⟩
end ASK4
