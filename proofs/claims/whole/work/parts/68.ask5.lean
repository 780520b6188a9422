/-! what is asked: would, change, unlike, peak -/
section ASK5
variable {S Sc Sm : S2} {n z nl r B : Int} {s pl : Int → Int}
/-- what the reference knows ahead of a search -/
def MCur (S : S2) (n : Int) (s : Int → Int) (z nl r : Int) (pl : Int → Int) : Prop := CvM S 8 n s z ∧ LnM S nl r pl ∧ S.1 0 29 = 1
theorem MCur.km {S' : S2} (h : MCur S n s z nl r pl) (k : KM S S') : MCur S' n s z nl r pl := by
  obtain ⟨⟨a1, a2, a3⟩, ⟨b1, b2, b3⟩, c⟩ := h
  obtain ⟨k1, k2, k3, k4, k5⟩ := k
  exact ⟨⟨by rw [k1 8 (by omega)]; exact a1, by rw [k1 8 (by omega)]; exact a2, fun i x y => by rw [k1 8 (by omega)]; exact a3 i x y⟩, ⟨by rw [k5 27 (by omega)]; exact b1, by rw [k5 28 (by omega)]; exact b2, fun i x y => by rw [k1 10 (by omega)]; exact b3 i x y⟩, by rw [k5 29 (by omega)]; exact c⟩
theorem setS_b {p v : Int} (hb : CvB n s) (hv : 0 ≤ v ∧ v ≤ 999) : CvB n (setS s p v) := fun i x y => by
  unfold setS
  by_cases g : i = p
  · rw [if_pos g]; omega
  · rw [if_neg g]; exact hb i x y
def woF (w : Int) (K P C : Int) : Int := if w = 0 then K else if w = 1 then P else C
theorem wouldM_of (M : Nat) (h : MCur S n s z nl r pl) (h1 : 1 ≤ n) (hn : n ≤ 48) (hb : CvB n s) (hz : 0 ≤ z ∧ z ≤ 999) (hLB : LnB nl r pl) {p v w : Int} (hp : 0 ≤ p ∧ p < n) (hv : 0 ≤ v ∧ v ≤ 999) (hw : 0 ≤ w ∧ w ≤ 2) (hM : 600 ≤ M) : ∃ S', f_X11_would M S p v w = some (woF w (pkK n (setS s p v) z) (qP n (setS s p v) 0) (pkC n (setS s p v)), S') ∧ KM S S' := by
  obtain ⟨hc, hL, i29⟩ := h
  have ew : f_X11_whyNot M S 7 p v = some (-1, S) := by
    have := whyNot_of M hc i29 h1 hn (sort := 7) (a := p) (b := v) (by omega) (by omega) (by omega) (by omega) (by omega) (by omega)
    rw [rfF_y h1 (fun _ => hp) ⟨fun q => by omega, fun q => by omega, fun q => by omega, fun _ => hv, fun q => by omega⟩] at this
    exact this
  have es := sets_of M hc hn (p := p) (v := v) hp.1 hp.2
  have hc1 : CvM (pI S 8 p v) 8 n (setS s p v) z := hc.put v (by omega)
  have fr1 : FrM is8 noF S (pI S 8 p v) := FrM.wI (i := 8) FrM.refl rfl (by decide)
  obtain ⟨S2, e1, e2, e3, e4⟩ := findsM_of M hc1 (setS_b hb hv) h1 hn hz.1 hz.2 hLB (hL.kept fr1 (by decide) (fun q => q) (fun q => q)) (by omega)
  have b0 := setS_b (p := p) hb hv
  have pf := (pk_facts h1 hn b0).1
  have e38 := e2.2.2
  have e35 := e2.1.1
  have ep := placeM_of M e2 h1 hn b0 (k := 0) (by omega) (by omega)
  have esp := hc.2.2 p hp.1 hp.2
  refine ⟨pI S2 8 p (s p), ?_, ⟨fun j hj => ?_, ?_, fun k hk => ?_, fun k hk => ?_, fun k hk => ?_⟩⟩
  · unfold f_X11_would woF
    rcases (show w = 0 ∨ w = 1 ∨ w = 2 by omega) with g | g | g
    · simp (disch := omega) only [ew, in_y M, es, e1, e38, f_X11_would_63, gI, uI, cI_of, aI_of, sI_of, mnI_of, mxI_of, abI_of, dvI_of, rmI_of, bI_of, bV_of, rI, rV, rL, rP, rT, rZ_of, rC_of, if_pos, if_neg, if_true, if_false]
    · simp (disch := omega) only [ew, in_y M, es, e1, ep, f_X11_would_63, gI, uI, cI_of, aI_of, sI_of, mnI_of, mxI_of, abI_of, dvI_of, rmI_of, bI_of, bV_of, rI, rV, rL, rP, rT, rZ_of, rC_of, if_pos, if_neg, if_true, if_false]
    · simp (disch := omega) only [ew, in_y M, es, e1, e35, f_X11_would_63, gI, uI, cI_of, aI_of, sI_of, mnI_of, mxI_of, abI_of, dvI_of, rmI_of, bI_of, bV_of, rI, rV, rL, rP, rT, rZ_of, rC_of, if_pos, if_neg, if_true, if_false]
  · by_cases g : j = 8
    · subst g
      funext k
      rw [pI_at, e4.2.1 8 (by decide) (by decide), pI_at]
      by_cases q : k = p
      · rw [if_pos q, q]; exact esp.symm
      · rw [if_neg q, if_neg q]
    · rw [pI_row g, e4.2.1 j (by omega) (fun q => by have q : 13 ≤ j ∧ j ≤ 21 := q; omega), pI_row g]
  · show S2.2 12 = S.2 12
    rw [e4.1]; rfl
  · rw [pI_cell (by decide), e4.2.1 6 (by decide) (by decide), pI_cell (by decide)]
  · rw [pI_cell (by decide), e4.2.1 7 (by decide) (by decide), pI_cell (by decide)]
  · rw [pI_cell (by decide), e4.2.2 k (fun q => by have q : k = 35 ∨ k = 38 ∨ k = 41 := q; omega), pI_cell (by decide)]
theorem would_both (N M : Nat) (hN : 2000 ≤ N) (hM : 2000 ≤ M) (hB : B ≤ 50000) (H : RelB B Sc Sm) {a1 a2 a3 : Int} (h1 : inR a1) (h2 : inR a2) (h3 : inR a3) : ∃ (v : Int) (Sc' Sm' : S2), f_X10_would N Sc a1 a2 a3 = some (v, Sc') ∧ f_X11_would M Sm a1 a2 a3 = some (v, Sm') ∧ RelB (B + 40) Sc' Sm' := by
  obtain ⟨-, -, -, ⟨n, z, s, cur, -⟩, ⟨nl, r, pl, ln⟩, -⟩ := id H
  have i29 := cur.2.2.2.2.2.1
  have ha1 := h3.1
  have ha2 := h3.2
  obtain ⟨⟨n0, n48⟩, hb, hz, hc, hm, hi, hP, hQ⟩ := id cur
  have er := refusal_of N hc n0 n48 (sort := 7) (a := a1) (b := a2) (by omega) (by omega) h1.1 h1.2 h2.1 h2.2
  have ew : f_X11_whyNot M Sm 7 a1 a2 = some (rfF n 7 a1 a2, Sm) := by
    by_cases hn : n = 0
    · rw [if_pos hn] at i29
      have : rfF n 7 a1 a2 = 0 := by unfold rfF; rw [if_pos hn]
      rw [this]
      exact whyNot_0 M i29
    · rw [if_neg hn] at i29
      exact whyNot_of M hm i29 (by omega) n48 (by omega) (by omega) h1.1 h1.2 h2.1 h2.2
  have rc := rf_cases (n := n) (so := 7) (a := a1) (b := a2)
  by_cases gr : rfF n 7 a1 a2 = -1
  · obtain ⟨k1, k2, k3, k4, k5, k6, k7⟩ := rf_ok gr
    have n1 : 1 ≤ n := by omega
    rw [if_neg (by omega)] at i29
    rw [gr] at er ew
    by_cases gw : 0 ≤ a3 ∧ a3 ≤ 2
    · have hp := k2 (Or.inl rfl)
      have hv := k6 rfl
      obtain ⟨Sm1, m1, m2⟩ := wouldM_of M ⟨hm, ln.2.2.1, i29⟩ n1 n48 hb hz ln.1 hp hv gw (by omega)
      obtain ⟨C1, c1, c2, c3, -⟩ := copyFrom_of N (c0 := 54) hc n48 (by omega) (by omega) (by omega)
      have c4 : CvC (pI C1 55 a1 a2) 54 n (setS s a1 a2) z := c2.put a1 a2
      have b0 := setS_b (p := a1) hb hv
      obtain ⟨C3, d1, d2, d3⟩ := findC_of N (c0 := 56) (c := 54) (by unfold Off; omega) c4 b0 n1 n48 hz.1 hz.2 (by omega)
      have pf := (pk_facts n1 n48 b0).1
      have e60 := d2.1
      have e61 := d2.2.1
      have ep : f_X5_placeOf N C3 56 0 = some (qP n (setS s a1 a2) 0, C3) := placeC_of N d2 n1 n48 b0 (by omega) (by omega)
      have kc : KC Sc C3 := KC.of (((c3.trans (Fr.refl.pI (A := fun j => j = 55) (i := 55) rfl) (fun j q => by have q : j = 54 ∨ j = 54 + 1 := q; omega) (fun j q => by have q : j = 55 := q; omega) (C := fun j => 54 ≤ j ∧ j ≤ 73))).trans d3 (fun _ q => q) (fun j q => by have q : 56 ≤ j ∧ j ≤ 56 + 12 := q; show 54 ≤ j ∧ j ≤ 73; omega)) (fun j q => Or.inr (Or.inr (Or.inr (Or.inl q))))
      refine ⟨_, C3, Sm1, ?_, m1, (H.keep kc m2).up (by omega)⟩
      unfold f_X10_would woF
      rcases (show a3 = 0 ∨ a3 = 1 ∨ a3 = 2 by omega) with g | g | g
      · simp (disch := omega) only [er, c1, d1, e61, gI, uI, cI_of, aI_of, sI_of, mnI_of, mxI_of, abI_of, dvI_of, rmI_of, bI_of, bV_of, rI, rV, rL, rP, rT, rZ_of, rC_of, if_pos, if_neg, if_true, if_false]
      · simp (disch := omega) only [er, c1, d1, ep, gI, uI, cI_of, aI_of, sI_of, mnI_of, mxI_of, abI_of, dvI_of, rmI_of, bI_of, bV_of, rI, rV, rL, rP, rT, rZ_of, rC_of, if_pos, if_neg, if_true, if_false]
      · simp (disch := omega) only [er, c1, d1, e60, gI, uI, cI_of, aI_of, sI_of, mnI_of, mxI_of, abI_of, dvI_of, rmI_of, bI_of, bV_of, rI, rV, rL, rP, rT, rZ_of, rC_of, if_pos, if_neg, if_true, if_false]
    · refine ⟨-1, Sc, Sm, ?_, ?_, H.up (by omega)⟩
      · unfold f_X10_would
        by_cases q : a3 < 0
        · simp (disch := omega) only [er, gI, uI, cI_of, aI_of, sI_of, mnI_of, mxI_of, abI_of, dvI_of, rmI_of, bI_of, bV_of, rI, rV, rL, rP, rT, rZ_of, rC_of, if_pos, if_neg, if_true, if_false]
        · simp (disch := omega) only [er, gI, uI, cI_of, aI_of, sI_of, mnI_of, mxI_of, abI_of, dvI_of, rmI_of, bI_of, bV_of, rI, rV, rL, rP, rT, rZ_of, rC_of, if_pos, if_neg, if_true, if_false]
      · unfold f_X11_would
        simp (disch := omega) only [ew, in_n M, gI, uI, cI_of, aI_of, sI_of, mnI_of, mxI_of, abI_of, dvI_of, rmI_of, bI_of, bV_of, rI, rV, rL, rP, rT, rZ_of, rC_of, if_pos, if_neg, if_true, if_false]
  · refine ⟨-1, Sc, Sm, ?_, ?_, H.up (by omega)⟩
    · unfold f_X10_would
      simp (disch := omega) only [er, gI, uI, cI_of, aI_of, sI_of, mnI_of, mxI_of, abI_of, dvI_of, rmI_of, bI_of, bV_of, rI, rV, rL, rP, rT, rZ_of, rC_of, if_pos, if_neg, if_true, if_false]
    · unfold f_X11_would
      simp (disch := omega) only [ew, gI, uI, cI_of, aI_of, sI_of, mnI_of, mxI_of, abI_of, dvI_of, rmI_of, bI_of, bV_of, rI, rV, rL, rP, rT, rZ_of, rC_of, if_pos, if_neg, if_true, if_false]
theorem op_would (hB : B ≤ 50000) : Op_would (RelB B) (RelB (B + 40)) := fun Sc Sm H a1 a2 a3 h1 h2 h3 => ⟨2000, 2000, would_both 2000 2000 (by decide) (by decide) hB H h1 h2 h3⟩
/-- the first with the fewest -/
def chF (w : Int → Int) : Nat → Int → Int → Int → Int × Int
  | 0, _, b, f => (b, f)
  | d + 1, i, b, f => if b = -1 ∨ w i < f then chF w d (i + 1) i (w i) else chF w d (i + 1) b f
noncomputable def chW (n : Int) (s : Int → Int) (z : Int) : Int → Int := fun i => pkK n (setS s i 0) z
theorem chW_in (h1 : 1 ≤ n) (hn : n ≤ 48) (hb : CvB n s) (i : Int) : 1 ≤ chW n s z i ∧ chW n s z i ≤ 48 := by
  have b0 := setS_b (p := i) (v := 0) hb (by omega)
  have kk := pkK_in (z := z) h1 hn b0
  have pf := (pk_facts h1 hn b0).1
  unfold chW; omega
abbrev chA : Nat → Prop := fun j => 55 ≤ j ∧ j ≤ 68
theorem changeC_loop {x1 : Int} (h1 : 1 ≤ n) (hn : n ≤ 48) (hb : CvB n s) (hz : 0 ≤ z ∧ z ≤ 999) : ∀ (d N : Nat) (i b f : Int) (S : S2), 0 ≤ i → i + d = n → d + 500 < N → -1 ≤ b → b ≤ 48 → -1 ≤ f → f ≤ 48 → CvC S 4 n s z → CvC S 54 n s z → ∃ S', (∀ K, f_X10_change_36 K N x1 b f i S = K x1 (chF (chW n s z) d i b f).1 (chF (chW n s z) d i b f).2 S') ∧ Fr chA S S' := by
  intro d
  induction d with
  | zero =>
    intro N i b f S h0 hi hN b0 b1 f0 f1 hc ht
    obtain ⟨N, rfl⟩ : ∃ M, N = M + 1 := ⟨N - 1, by omega⟩
    have e41 := hc.1
    refine ⟨S, fun K => ?_, Fr.refl⟩
    rw [f_X10_change_36]
    simp (disch := omega) only [e41, gI, uI, cI_of, aI_of, sI_of, mnI_of, mxI_of, abI_of, dvI_of, rmI_of, bI_of, bV_of, rI, rV, rL, rP, rT, rZ_of, rC_of, if_pos, if_neg, if_true, if_false]
    rfl
  | succ d ih =>
    intro N i b f S h0 hi hN b0 b1 f0 f1 hc ht
    obtain ⟨N, rfl⟩ : ∃ M, N = M + 1 := ⟨N - 1, by omega⟩
    have e41 := hc.1
    have w := chW_in (z := z) h1 hn hb i
    have bs := hb i h0 (by omega)
    have t1 : CvC (pI S 55 i 0) 54 n (setS s i 0) z := ht.put i 0
    obtain ⟨S2, a1, a2, a3⟩ := findC_of N (c0 := 56) (c := 54) (by unfold Off; omega) t1 (setS_b hb (by omega)) h1 hn hz.1 hz.2 (by omega)
    have fr2 : Fr chA S S2 := (Fr.refl.pI (A := fun j => j = 55) (i := 55) rfl).trans a3 (fun j q => by have q : j = 55 := q; show 55 ≤ j ∧ j ≤ 68; omega) (fun j q => by have q : 56 ≤ j ∧ j ≤ 56 + 12 := q; show 55 ≤ j ∧ j ≤ 68; omega)
    have e61 : S2.1 56 1 = chW n s z i := a2.2.1
    have hc2 := hc.kept fr2 (by decide) (by decide)
    have esi := hc2.2.2 i h0 (by omega)
    have t2 := t1.kept a3 (by decide) (by decide)
    have fr3 : Fr chA S (pI S2 55 i (s i)) := fr2.pI (by decide)
    have fr23 : Fr chA S2 (pI S2 55 i (s i)) := Fr.refl.pI (by decide)
    have hc3 := hc2.kept fr23 (by decide) (by decide)
    have t3 : CvC (pI S2 55 i (s i)) 54 n s z := (t2.put i (s i)).congr (fun j x y => by
      by_cases g : j = i
      · rw [if_pos g, g]
      · rw [if_neg g]; unfold setS; rw [if_neg g])
    have fin : ∀ K b' f', f_X10_change_97 K N x1 b' f' i S2 = K x1 b' f' (i + 1) (pI S2 55 i (s i)) := fun K b' f' => by
      rw [f_X10_change_97]
      simp (disch := omega) only [esi, gI, uI, cI_of, aI_of, sI_of, mnI_of, mxI_of, abI_of, dvI_of, rmI_of, bI_of, bV_of, rI, rV, rL, rP, rT, rZ_of, rC_of, if_pos, if_neg, if_true, if_false]
    have step : ∀ b' f', -1 ≤ b' → b' ≤ 48 → -1 ≤ f' → f' ≤ 48 → chF (chW n s z) (d + 1) i b f = chF (chW n s z) d (i + 1) b' f' → ∃ S', (∀ K, f_X10_change_36 K N x1 b' f' (i + 1) (pI S2 55 i (s i)) = K x1 (chF (chW n s z) (d + 1) i b f).1 (chF (chW n s z) (d + 1) i b f).2 S') ∧ Fr chA S S' := fun b' f' q1 q2 q3 q4 e => by
      obtain ⟨S', e1, e2⟩ := ih N (i + 1) b' f' (pI S2 55 i (s i)) (by omega) (by omega) (by omega) q1 q2 q3 q4 hc3 t3
      exact ⟨S', fun K => by rw [e]; exact e1 K, fr3.trans e2 (fun _ h => h) (fun _ h => h)⟩
    by_cases g : b = -1 ∨ chW n s z i < f
    · obtain ⟨S', e1, e2⟩ := step i (chW n s z i) (by omega) (by omega) (by omega) (by omega) (by rw [chF, if_pos g])
      refine ⟨S', fun K => ?_, e2⟩
      rw [← e1 K, f_X10_change_36]
      by_cases gb : b = -1
      · simp (disch := omega) only [gI, e41, cI_of, if_neg, if_pos, sI_of, a1, bV_of, f_X10_change_86, e61]
        rw [fin]
      · simp (disch := omega) only [gI, e41, cI_of, if_neg, sI_of, a1, bV_of, f_X10_change_86, e61]
        rw [fin]
    · obtain ⟨S', e1, e2⟩ := step b f b0 b1 f0 f1 (by rw [chF, if_neg g])
      refine ⟨S', fun K => ?_, e2⟩
      rw [← e1 K, f_X10_change_36]
      simp (disch := omega) only [gI, e41, cI_of, if_neg, if_pos, sI_of, a1, bV_of, e61]
      rw [fin]
theorem changeM_loop {x1 : Int} (h1 : 1 ≤ n) (hn : n ≤ 48) (hb : CvB n s) (hz : 0 ≤ z ∧ z ≤ 999) (hLB : LnB nl r pl) : ∀ (d N : Nat) (i b f : Int) (S : S2), 0 ≤ i → i + d = n → d + 700 < N → -1 ≤ b → b ≤ 48 → -1 ≤ f → f ≤ 48 → MCur S n s z nl r pl → ∃ S', (∀ K, f_X11_change_25 K N x1 b f i S = K x1 (chF (chW n s z) d i b f).1 (chF (chW n s z) d i b f).2 S') ∧ KM S S' := by
  intro d
  induction d with
  | zero =>
    intro N i b f S h0 hi hN b0 b1 f0 f1 hc
    obtain ⟨N, rfl⟩ : ∃ M, N = M + 1 := ⟨N - 1, by omega⟩
    refine ⟨S, fun K => ?_, KM.refl⟩
    rw [f_X11_change_25]
    simp (disch := omega) only [many_of N hc.1, gI, uI, cI_of, aI_of, sI_of, mnI_of, mxI_of, abI_of, dvI_of, rmI_of, bI_of, bV_of, rI, rV, rL, rP, rT, rZ_of, rC_of, if_pos, if_neg, if_true, if_false]
    rfl
  | succ d ih =>
    intro N i b f S h0 hi hN b0 b1 f0 f1 hc
    obtain ⟨N, rfl⟩ : ∃ M, N = M + 1 := ⟨N - 1, by omega⟩
    have w := chW_in (z := z) h1 hn hb i
    obtain ⟨S1, a1, a2⟩ := wouldM_of N hc h1 hn hb hz hLB (p := i) (v := 0) (w := 0) (by omega) (by omega) (by omega) (by omega)
    have a1 : f_X11_would N S i 0 0 = some (chW n s z i, S1) := a1
    have em := many_of N hc.1
    have step : ∀ b' f', -1 ≤ b' → b' ≤ 48 → -1 ≤ f' → f' ≤ 48 → chF (chW n s z) (d + 1) i b f = chF (chW n s z) d (i + 1) b' f' → ∃ S', (∀ K, f_X11_change_25 K N x1 b' f' (i + 1) S1 = K x1 (chF (chW n s z) (d + 1) i b f).1 (chF (chW n s z) (d + 1) i b f).2 S') ∧ KM S S' := fun b' f' q1 q2 q3 q4 e => by
      obtain ⟨S', e1, e2⟩ := ih N (i + 1) b' f' S1 (by omega) (by omega) (by omega) q1 q2 q3 q4 (hc.km a2)
      exact ⟨S', fun K => by rw [e]; exact e1 K, a2.trans e2⟩
    by_cases g : b = -1 ∨ chW n s z i < f
    · obtain ⟨S', e1, e2⟩ := step i (chW n s z i) (by omega) (by omega) (by omega) (by omega) (by rw [chF, if_pos g])
      refine ⟨S', fun K => ?_, e2⟩
      rw [← e1 K, f_X11_change_25]
      by_cases gb : b = -1
      · simp (disch := omega) only [em, a1, f_X11_change_55, f_X11_change_61, gI, uI, cI_of, aI_of, sI_of, mnI_of, mxI_of, abI_of, dvI_of, rmI_of, bI_of, bV_of, rI, rV, rL, rP, rT, rZ_of, rC_of, if_pos, if_neg, if_true, if_false]
      · simp (disch := omega) only [em, a1, f_X11_change_55, f_X11_change_61, gI, uI, cI_of, aI_of, sI_of, mnI_of, mxI_of, abI_of, dvI_of, rmI_of, bI_of, bV_of, rI, rV, rL, rP, rT, rZ_of, rC_of, if_pos, if_neg, if_true, if_false]
    · obtain ⟨S', e1, e2⟩ := step b f b0 b1 f0 f1 (by rw [chF, if_neg g])
      refine ⟨S', fun K => ?_, e2⟩
      rw [← e1 K, f_X11_change_25]
      simp (disch := omega) only [em, a1, f_X11_change_61, gI, uI, cI_of, aI_of, sI_of, mnI_of, mxI_of, abI_of, dvI_of, rmI_of, bI_of, bV_of, rI, rV, rL, rP, rT, rZ_of, rC_of, if_pos, if_neg, if_true, if_false]
theorem change_both (N M : Nat) (hN : 2000 ≤ N) (hM : 2000 ≤ M) (hB : B ≤ 50000) (H : RelB B Sc Sm) {a1 : Int} (h1 : inR a1) : ∃ (v : Int) (Sc' Sm' : S2), f_X10_change N Sc a1 = some (v, Sc') ∧ f_X11_change M Sm a1 = some (v, Sm') ∧ RelB (B + 40) Sc' Sm' := by
  obtain ⟨-, -, -, ⟨n, z, s, cur, -⟩, ⟨nl, r, pl, ln⟩, -⟩ := id H
  have i29 := cur.2.2.2.2.2.1
  have ha1 := h1.1
  have ha2 := h1.2
  obtain ⟨⟨n0, n48⟩, hb, hz, hc, hm, hi, hP, hQ⟩ := id cur
  by_cases g0 : n = 0
  · rw [if_pos g0] at i29
    refine ⟨-1, Sc, Sm, ?_, ?_, H.up (by omega)⟩
    · unfold f_X10_change
      rw [noTrace_y _ cur g0]
      simp (disch := omega) only [gI, uI, cI_of, aI_of, sI_of, mnI_of, mxI_of, abI_of, dvI_of, rmI_of, bI_of, bV_of, rI, rV, rL, rP, rT, rZ_of, rC_of, if_pos, if_neg, if_true, if_false]
    · unfold f_X11_change
      simp (disch := omega) only [i29, gI, uI, cI_of, aI_of, sI_of, mnI_of, mxI_of, abI_of, dvI_of, rmI_of, bI_of, bV_of, rI, rV, rL, rP, rT, rZ_of, rC_of, if_pos, if_neg, if_true, if_false]
  · rw [if_neg g0] at i29
    have n1 : 1 ≤ n := by omega
    by_cases gr : 0 ≤ a1 ∧ a1 ≤ 1
    · obtain ⟨C1, c1, c2, c3, -⟩ := copyFrom_of N (c0 := 54) hc n48 (by omega) (by omega) (by omega)
      obtain ⟨C2, d1, d2⟩ := changeC_loop (x1 := a1) n1 n48 hb hz n.toNat N 0 (-1) (-1) C1 (by omega) (by omega) (by omega) (by omega) (by omega) (by omega) (by omega) (hc.kept c3 (by decide) (by decide)) c2
      obtain ⟨Sm1, m1, m2⟩ := changeM_loop (x1 := a1) n1 n48 hb hz ln.1 n.toNat M 0 (-1) 0 Sm (by omega) (by omega) (by omega) (by omega) (by omega) (by omega) (by omega) ⟨hm, ln.2.2.1, i29⟩
      have same : chF (chW n s z) n.toNat 0 (-1) 0 = chF (chW n s z) n.toNat 0 (-1) (-1) := by
        obtain ⟨k, hk⟩ : ∃ k, n.toNat = k + 1 := ⟨n.toNat - 1, by omega⟩
        rw [hk, chF, chF, if_pos (Or.inl rfl), if_pos (Or.inl rfl)]
      rw [same] at m1
      have kc : KC Sc C2 := KC.of (c3.trans d2 (fun j q => by have q : j = 54 ∨ j = 54 + 1 := q; omega) (fun j q => by have q : 55 ≤ j ∧ j ≤ 68 := q; omega) (C := fun j => 54 ≤ j ∧ j ≤ 73)) (fun j q => Or.inr (Or.inr (Or.inr (Or.inl q))))
      refine ⟨if a1 = 0 then (chF (chW n s z) n.toNat 0 (-1) (-1)).1 else (chF (chW n s z) n.toNat 0 (-1) (-1)).2, C2, Sm1, ?_, ?_, (H.keep kc m2).up (by omega)⟩
      · unfold f_X10_change
        rw [noTrace_n _ cur n1]
        simp (disch := omega) only [bI_of, bV_of, cI_of, if_true, if_pos, if_neg, c1]
        rw [d1, f_X10_change_123]
        by_cases g : a1 = 0
        · simp (disch := omega) only [gI, uI, cI_of, aI_of, sI_of, mnI_of, mxI_of, abI_of, dvI_of, rmI_of, bI_of, bV_of, rI, rV, rL, rP, rT, rZ_of, rC_of, if_pos, if_neg, if_true, if_false]
        · simp (disch := omega) only [gI, uI, cI_of, aI_of, sI_of, mnI_of, mxI_of, abI_of, dvI_of, rmI_of, bI_of, bV_of, rI, rV, rL, rP, rT, rZ_of, rC_of, if_pos, if_neg, if_true, if_false]
      · unfold f_X11_change
        simp (disch := omega) only [gI, bI_of, cI_of, if_false, if_neg, i29, in_y M]
        rw [m1, f_X11_change_67]
        by_cases g : a1 = 0
        · simp (disch := omega) only [gI, uI, cI_of, aI_of, sI_of, mnI_of, mxI_of, abI_of, dvI_of, rmI_of, bI_of, bV_of, rI, rV, rL, rP, rT, rZ_of, rC_of, if_pos, if_neg, if_true, if_false]
        · simp (disch := omega) only [gI, uI, cI_of, aI_of, sI_of, mnI_of, mxI_of, abI_of, dvI_of, rmI_of, bI_of, bV_of, rI, rV, rL, rP, rT, rZ_of, rC_of, if_pos, if_neg, if_true, if_false]
    · refine ⟨-1, Sc, Sm, ?_, ?_, H.up (by omega)⟩
      · unfold f_X10_change
        rw [noTrace_n _ cur n1]
        by_cases q : a1 < 0
        · simp (disch := omega) only [gI, uI, cI_of, aI_of, sI_of, mnI_of, mxI_of, abI_of, dvI_of, rmI_of, bI_of, bV_of, rI, rV, rL, rP, rT, rZ_of, rC_of, if_pos, if_neg, if_true, if_false]
        · simp (disch := omega) only [gI, uI, cI_of, aI_of, sI_of, mnI_of, mxI_of, abI_of, dvI_of, rmI_of, bI_of, bV_of, rI, rV, rL, rP, rT, rZ_of, rC_of, if_pos, if_neg, if_true, if_false]
      · unfold f_X11_change
        simp (disch := omega) only [i29, in_n M, gI, uI, cI_of, aI_of, sI_of, mnI_of, mxI_of, abI_of, dvI_of, rmI_of, bI_of, bV_of, rI, rV, rL, rP, rT, rZ_of, rC_of, if_pos, if_neg, if_true, if_false]
theorem op_change (hB : B ≤ 50000) : Op_change (RelB B) (RelB (B + 40)) := fun Sc Sm H a1 h1 => ⟨2000, 2000, change_both 2000 2000 (by decide) (by decide) hB H h1⟩
end ASK5
