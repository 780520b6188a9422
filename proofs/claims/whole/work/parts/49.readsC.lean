/-! basins, areas, widths; what is told of all peaks: the class -/
noncomputable def qH (n : Int) (s : Int → Int) : Int → Int := fun k => pkH n s (pkW n s k)
noncomputable def qL (n : Int) (s : Int → Int) : Int → Int := fun k => pkL n s (pkW n s k)
noncomputable def qD (n : Int) (s : Int → Int) : Int → Int := fun k => pkD n s (pkW n s k)
noncomputable def qG (n : Int) (s : Int → Int) : Int → Int := fun k => pkG n s (pkW n s k)
noncomputable def qA (n : Int) (s : Int → Int) : Int → Int := fun k => pkA n s (pkW n s k)
noncomputable def qV (n : Int) (s : Int → Int) : Int → Int := fun k => pkV n s (pkW n s k)
/-- the place beside, to the left (-1), to the right (the end) -/
def blF (P : Int → Int) (own : Int) (d : Nat) (i a : Int) : Int := fld (fun a i => if P i < own ∧ a < P i then P i else a) d i a
def brF (P : Int → Int) (own : Int) (d : Nat) (i a : Int) : Int := fld (fun a i => if own < P i ∧ P i < a then P i else a) d i a
theorem blF_in {P : Int → Int} {own : Int} : ∀ (d : Nat) (i a : Int), -1 ≤ a → a < own → -1 ≤ blF P own d i a ∧ blF P own d i a < own
  | 0, i, a, h1, h2 => ⟨h1, h2⟩
  | d + 1, i, a, h1, h2 => by
    show -1 ≤ blF P own d (i + 1) (if P i < own ∧ a < P i then P i else a) ∧ blF P own d (i + 1) (if P i < own ∧ a < P i then P i else a) < own
    by_cases g : P i < own ∧ a < P i
    · rw [if_pos g]; exact blF_in d (i + 1) (P i) (by omega) g.1
    · rw [if_neg g]; exact blF_in d (i + 1) a h1 h2
theorem brF_in {P : Int → Int} {own m : Int} : ∀ (d : Nat) (i a : Int), own < a → a ≤ m → own < brF P own d i a ∧ brF P own d i a ≤ m
  | 0, i, a, h1, h2 => ⟨h1, h2⟩
  | d + 1, i, a, h1, h2 => by
    show own < brF P own d (i + 1) (if own < P i ∧ P i < a then P i else a) ∧ brF P own d (i + 1) (if own < P i ∧ P i < a then P i else a) ≤ m
    by_cases g : own < P i ∧ P i < a
    · rw [if_pos g]; exact brF_in d (i + 1) (P i) g.1 (by omega)
    · rw [if_neg g]; exact brF_in d (i + 1) a h1 h2
noncomputable def bsL (n : Int) (s : Int → Int) (z k : Int) : Int := blF (qP n s) (qP n s k) (pkK n s z).toNat 0 (-1)
noncomputable def bsR (n : Int) (s : Int → Int) (z k : Int) : Int := brF (qP n s) (qP n s k) (pkK n s z).toNat 0 n
noncomputable def fsQ (n : Int) (s : Int → Int) (z k : Int) : Int := if bsL n s z k = -1 then 0 else lpF s (qP n s k - 1 - (bsL n s z k + 1)).toNat (bsL n s z k + 1 + 1) (bsL n s z k + 1)
noncomputable def lsQ (n : Int) (s : Int → Int) (z k : Int) : Int := if bsR n s z k = n then n - 1 else lpF s (bsR n s z k - 1 - (qP n s k + 1)).toNat (qP n s k + 1 + 1) (qP n s k + 1) - 1
def arF (s : Int → Int) (f : Int) (d : Nat) (i a : Int) : Int := fld (fun a i => a + max 0 (s i - f)) d i a
noncomputable def arQ (n : Int) (s : Int → Int) (z k : Int) : Int := arF s (qD n s k) (lsQ n s z k - fsQ n s z k + 1).toNat (fsQ n s z k) 0
noncomputable def wdQ (n : Int) (s : Int → Int) (k : Int) : Int := reF s (qH n s k - qL n s k / 2) (n - 1 - qP n s k).toNat (qP n s k) - rsF s (qH n s k - qL n s k / 2) (qP n s k).toNat + 1
section QIN
variable {n z : Int} {s : Int → Int}
theorem q_in (h0 : 1 ≤ n) (hn : n ≤ 48) (hb : CvB n s) {k : Int} (h1 : 0 ≤ k) (h2 : k < pkC n s) : (0 ≤ qP n s k ∧ qP n s k < n) ∧ (0 ≤ qH n s k ∧ qH n s k ≤ 999) ∧ (0 ≤ qL n s k ∧ qL n s k ≤ 999) ∧ (0 ≤ qD n s k ∧ qD n s k ≤ 999) ∧ (0 ≤ qG n s k ∧ qG n s k < 48) ∧ qL n s k = qH n s k - qD n s k ∧ qH n s k = s (qP n s k) := by
  have f := pk_facts h0 hn hb
  have w := (pkW_ok h0 hn hb).range f.1.1 k h1 h2
  have g := f.2.1 _ w.1 w.2
  have b := hb _ g.1.1 g.1.2
  have l := pkL_in h0 hn hb w.1 w.2
  have gg := gF_in (pkA_in h0 hn hb) 48 _ w.1 w.2
  exact ⟨g.1, b, l, g.2.1, ⟨gg.1, by show gF (pkA n s) 48 (pkW n s k) < 48; omega⟩, rfl, rfl⟩
theorem fsQ_in (h0 : 1 ≤ n) (hn : n ≤ 48) (hb : CvB n s) {k : Int} (h1 : 0 ≤ k) (h2 : k < pkC n s) : 0 ≤ fsQ n s z k ∧ fsQ n s z k ≤ qP n s k := by
  have q := (q_in h0 hn hb h1 h2).1
  have b := blF_in (P := qP n s) (own := qP n s k) (pkK n s z).toNat 0 (-1) (by omega) (by omega)
  have b : -1 ≤ bsL n s z k ∧ bsL n s z k < qP n s k := b
  unfold fsQ
  by_cases g : bsL n s z k = -1
  · rw [if_pos g]; omega
  · rw [if_neg g]
    have := lpF_in (s := s) (lo := 0) (qP n s k - 1 - (bsL n s z k + 1)).toNat (bsL n s z k + 1 + 1) (bsL n s z k + 1) (by omega) (by omega)
    omega
theorem lsQ_in (h0 : 1 ≤ n) (hn : n ≤ 48) (hb : CvB n s) {k : Int} (h1 : 0 ≤ k) (h2 : k < pkC n s) : qP n s k ≤ lsQ n s z k ∧ lsQ n s z k < n := by
  have q := (q_in h0 hn hb h1 h2).1
  have b := brF_in (P := qP n s) (own := qP n s k) (m := n) (pkK n s z).toNat 0 n (by omega) (by omega)
  have b : qP n s k < bsR n s z k ∧ bsR n s z k ≤ n := b
  unfold lsQ
  by_cases g : bsR n s z k = n
  · rw [if_pos g]; omega
  · rw [if_neg g]
    have := lpF_in (s := s) (lo := qP n s k + 1) (bsR n s z k - 1 - (qP n s k + 1)).toNat (qP n s k + 1 + 1) (qP n s k + 1) (by omega) (by omega)
    omega
end QIN
section READSC
variable {S : S2} {c0 c : Nat} {n z : Int} {s : Int → Int}
theorem basinStart_loop (hc : CvC S c n s z) (h : CP S c0 n s z) (h0 : 1 ≤ n) (hn : n ≤ 48) (hb : CvB n s) {own : Int} (ho : 0 ≤ own ∧ own < 48) : ∀ (d N : Nat) (i a : Int), 0 ≤ i → i + d = pkK n s z → d < N → -1 ≤ a → a ≤ 48 → ∀ K, f_X5_basinStart_12 c0 c K N own a i S = K own (blF (qP n s) own d i a) S := by
  have kk := pkK_in (z := z) h0 hn hb
  have pf := (pk_facts h0 hn hb).1
  have e1 := h.2.1
  intro d
  induction d with
  | zero =>
    intro N i a hi0 hi hN ha1 ha2 K
    obtain ⟨N, rfl⟩ : ∃ M, N = M + 1 := ⟨N - 1, by omega⟩
    rw [f_X5_basinStart_12]
    simp (disch := omega) only [e1, gI, uI, cI_of, aI_of, sI_of, mnI_of, mxI_of, abI_of, dvI_of, rmI_of, bI_of, bV_of, rI, rV, rL, rP, rT, rZ_of, rC_of, if_pos, if_neg, if_true, if_false]
    rfl
  | succ d ih =>
    intro N i a hi0 hi hN ha1 ha2 K
    obtain ⟨N, rfl⟩ : ∃ M, N = M + 1 := ⟨N - 1, by omega⟩
    have ep : f_X5_placeOf N S c0 i = some (qP n s i, S) := placeC_of N h h0 hn hb hi0 (by omega)
    have q := (q_in h0 hn hb hi0 (by omega : i < pkC n s)).1
    have e : blF (qP n s) own (d + 1) i a = blF (qP n s) own d (i + 1) (if qP n s i < own ∧ a < qP n s i then qP n s i else a) := rfl
    rw [e]
    by_cases g1 : own ≤ qP n s i
    · rw [if_neg (by omega), ← ih N (i + 1) a (by omega) (by omega) (by omega) ha1 ha2 K, f_X5_basinStart_12]
      simp (disch := omega) only [e1, ep, f_X5_basinStart_46, gI, uI, cI_of, aI_of, sI_of, mnI_of, mxI_of, abI_of, dvI_of, rmI_of, bI_of, bV_of, rI, rV, rL, rP, rT, rZ_of, rC_of, if_pos, if_neg, if_true, if_false]
    · by_cases g2 : qP n s i ≤ a
      · rw [if_neg (by omega), ← ih N (i + 1) a (by omega) (by omega) (by omega) ha1 ha2 K, f_X5_basinStart_12]
        simp (disch := omega) only [e1, ep, f_X5_basinStart_46, gI, uI, cI_of, aI_of, sI_of, mnI_of, mxI_of, abI_of, dvI_of, rmI_of, bI_of, bV_of, rI, rV, rL, rP, rT, rZ_of, rC_of, if_pos, if_neg, if_true, if_false]
      · rw [if_pos (by omega), ← ih N (i + 1) (qP n s i) (by omega) (by omega) (by omega) (by omega) (by omega) K, f_X5_basinStart_12]
        simp (disch := omega) only [e1, ep, f_X5_basinStart_46, gI, uI, cI_of, aI_of, sI_of, mnI_of, mxI_of, abI_of, dvI_of, rmI_of, bI_of, bV_of, rI, rV, rL, rP, rT, rZ_of, rC_of, if_pos, if_neg, if_true, if_false]
theorem basinStart_of (N : Nat) (hc : CvC S c n s z) (h : CP S c0 n s z) (h0 : 1 ≤ n) (hn : n ≤ 48) (hb : CvB n s) {k : Int} (h1 : 0 ≤ k) (h2 : k < pkC n s) (hN : 100 ≤ N) : f_X5_basinStart N S c0 c k = some (fsQ n s z k, S) := by
  have kk := pkK_in (z := z) h0 hn hb
  have pf := (pk_facts h0 hn hb).1
  have ep : f_X5_placeOf N S c0 k = some (qP n s k, S) := placeC_of N h h0 hn hb h1 h2
  have q := (q_in h0 hn hb h1 h2).1
  have b := blF_in (P := qP n s) (own := qP n s k) (pkK n s z).toNat 0 (-1) (by omega) (by omega)
  have b : -1 ≤ bsL n s z k ∧ bsL n s z k < qP n s k := b
  unfold f_X5_basinStart
  rw [ep, bI_of, basinStart_loop hc h h0 hn hb (by omega) (pkK n s z).toNat N 0 (-1) (by omega) (by omega) (by omega) (by omega) (by omega), f_X5_basinStart_52]
  show cI (bsL n s z k) (-1) (if bsL n s z k = -1 then rI 0 S else bI (f_X0_leastPlace N S c (bsL n s z k + 1) (qP n s k - 1)) fun v70 S70 => rI v70 S70) = _
  unfold fsQ
  by_cases g : bsL n s z k = -1
  · simp (disch := omega) only [gI, uI, cI_of, aI_of, sI_of, mnI_of, mxI_of, abI_of, dvI_of, rmI_of, bI_of, bV_of, rI, rV, rL, rP, rT, rZ_of, rC_of, if_pos, if_neg, if_true, if_false]
  · rw [leastPlace_of N hc hb hn (by omega) (by omega) (by omega) (by omega) hN]
    simp (disch := omega) only [gI, uI, cI_of, aI_of, sI_of, mnI_of, mxI_of, abI_of, dvI_of, rmI_of, bI_of, bV_of, rI, rV, rL, rP, rT, rZ_of, rC_of, if_pos, if_neg, if_true, if_false]
theorem basinEnd_loop (hc : CvC S c n s z) (h : CP S c0 n s z) (h0 : 1 ≤ n) (hn : n ≤ 48) (hb : CvB n s) {own : Int} (ho : 0 ≤ own ∧ own < 48) : ∀ (d N : Nat) (i a : Int), 0 ≤ i → i + d = pkK n s z → d < N → -1 ≤ a → a ≤ 48 → ∀ K, f_X5_basinEnd_15 c0 c K N own a i S = K own (brF (qP n s) own d i a) S := by
  have kk := pkK_in (z := z) h0 hn hb
  have pf := (pk_facts h0 hn hb).1
  have e1 := h.2.1
  intro d
  induction d with
  | zero =>
    intro N i a hi0 hi hN ha1 ha2 K
    obtain ⟨N, rfl⟩ : ∃ M, N = M + 1 := ⟨N - 1, by omega⟩
    rw [f_X5_basinEnd_15]
    simp (disch := omega) only [e1, gI, uI, cI_of, aI_of, sI_of, mnI_of, mxI_of, abI_of, dvI_of, rmI_of, bI_of, bV_of, rI, rV, rL, rP, rT, rZ_of, rC_of, if_pos, if_neg, if_true, if_false]
    rfl
  | succ d ih =>
    intro N i a hi0 hi hN ha1 ha2 K
    obtain ⟨N, rfl⟩ : ∃ M, N = M + 1 := ⟨N - 1, by omega⟩
    have ep : f_X5_placeOf N S c0 i = some (qP n s i, S) := placeC_of N h h0 hn hb hi0 (by omega)
    have q := (q_in h0 hn hb hi0 (by omega : i < pkC n s)).1
    have e : brF (qP n s) own (d + 1) i a = brF (qP n s) own d (i + 1) (if own < qP n s i ∧ qP n s i < a then qP n s i else a) := rfl
    rw [e]
    by_cases g1 : qP n s i ≤ own
    · rw [if_neg (by omega), ← ih N (i + 1) a (by omega) (by omega) (by omega) ha1 ha2 K, f_X5_basinEnd_15]
      simp (disch := omega) only [e1, ep, f_X5_basinEnd_49, gI, uI, cI_of, aI_of, sI_of, mnI_of, mxI_of, abI_of, dvI_of, rmI_of, bI_of, bV_of, rI, rV, rL, rP, rT, rZ_of, rC_of, if_pos, if_neg, if_true, if_false]
    · by_cases g2 : a ≤ qP n s i
      · rw [if_neg (by omega), ← ih N (i + 1) a (by omega) (by omega) (by omega) ha1 ha2 K, f_X5_basinEnd_15]
        simp (disch := omega) only [e1, ep, f_X5_basinEnd_49, gI, uI, cI_of, aI_of, sI_of, mnI_of, mxI_of, abI_of, dvI_of, rmI_of, bI_of, bV_of, rI, rV, rL, rP, rT, rZ_of, rC_of, if_pos, if_neg, if_true, if_false]
      · rw [if_pos (by omega), ← ih N (i + 1) (qP n s i) (by omega) (by omega) (by omega) (by omega) (by omega) K, f_X5_basinEnd_15]
        simp (disch := omega) only [e1, ep, f_X5_basinEnd_49, gI, uI, cI_of, aI_of, sI_of, mnI_of, mxI_of, abI_of, dvI_of, rmI_of, bI_of, bV_of, rI, rV, rL, rP, rT, rZ_of, rC_of, if_pos, if_neg, if_true, if_false]
theorem basinEnd_of (N : Nat) (hc : CvC S c n s z) (h : CP S c0 n s z) (h0 : 1 ≤ n) (hn : n ≤ 48) (hb : CvB n s) {k : Int} (h1 : 0 ≤ k) (h2 : k < pkC n s) (hN : 100 ≤ N) : f_X5_basinEnd N S c0 c k = some (lsQ n s z k, S) := by
  have kk := pkK_in (z := z) h0 hn hb
  have pf := (pk_facts h0 hn hb).1
  have hcn := hc.1
  have ep : f_X5_placeOf N S c0 k = some (qP n s k, S) := placeC_of N h h0 hn hb h1 h2
  have q := (q_in h0 hn hb h1 h2).1
  have b := brF_in (P := qP n s) (own := qP n s k) (m := n) (pkK n s z).toNat 0 n (by omega) (by omega)
  have b : qP n s k < bsR n s z k ∧ bsR n s z k ≤ n := b
  unfold f_X5_basinEnd
  rw [ep, bI_of]
  simp (disch := omega) only [hcn, gI, uI, cI_of, aI_of, sI_of, mnI_of, mxI_of, abI_of, dvI_of, rmI_of, bI_of, bV_of, rI, rV, rL, rP, rT, rZ_of, rC_of, if_pos, if_neg, if_true, if_false]
  rw [basinEnd_loop hc h h0 hn hb (by omega) (pkK n s z).toNat N 0 n (by omega) (by omega) (by omega) (by omega) (by omega), f_X5_basinEnd_55]
  show gI S c 1 (fun v58 => cI (bsR n s z k) v58 (if bsR n s z k = v58 then rI (bsR n s z k - 1) S else bI (f_X0_leastPlace N S c (qP n s k + 1) (bsR n s z k - 1)) fun v79 S79 => rI (v79 - 1) S79)) = _
  unfold lsQ
  by_cases g : bsR n s z k = n
  · simp (disch := omega) only [hcn, gI, uI, cI_of, aI_of, sI_of, mnI_of, mxI_of, abI_of, dvI_of, rmI_of, bI_of, bV_of, rI, rV, rL, rP, rT, rZ_of, rC_of, if_pos, if_neg, if_true, if_false]
    rw [g]
  · rw [leastPlace_of N hc hb hn (by omega) (by omega) (by omega) (by omega) hN]
    simp (disch := omega) only [hcn, gI, uI, cI_of, aI_of, sI_of, mnI_of, mxI_of, abI_of, dvI_of, rmI_of, bI_of, bV_of, rI, rV, rL, rP, rT, rZ_of, rC_of, if_pos, if_neg, if_true, if_false]
theorem area_loop (hc : CvC S c n s z) (hn : n ≤ 48) (hb : CvB n s) {f : Int} (hf : 0 ≤ f ∧ f ≤ 999) : ∀ (d N : Nat) (i a e : Int), 0 ≤ i → i + d = e + 1 → e < n → d < N → f_X5_area_28 c0 c N e f a i S = some (arF s f d i a, S) := by
  intro d
  induction d with
  | zero =>
    intro N i a e hi0 hi he hN
    obtain ⟨N, rfl⟩ : ∃ M, N = M + 1 := ⟨N - 1, by omega⟩
    rw [f_X5_area_28]
    simp (disch := omega) only [gI, uI, cI_of, aI_of, sI_of, mnI_of, mxI_of, abI_of, dvI_of, rmI_of, bI_of, bV_of, rI, rV, rL, rP, rT, rZ_of, rC_of, if_pos, if_neg, if_true, if_false]
    rfl
  | succ d ih =>
    intro N i a e hi0 hi he hN
    obtain ⟨N, rfl⟩ : ∃ M, N = M + 1 := ⟨N - 1, by omega⟩
    have es := hc.2.2 i hi0 (by omega)
    have bs := hb i hi0 (by omega)
    show _ = some (arF s f d (i + 1) (a + max 0 (s i - f)), S)
    rw [f_X5_area_28, ← ih N (i + 1) (a + max 0 (s i - f)) e (by omega) (by omega) he (by omega)]
    simp (disch := omega) only [has_y N hc hn, es, f_X5_area_63, gI, uI, cI_of, aI_of, sI_of, mnI_of, mxI_of, abI_of, dvI_of, rmI_of, bI_of, bV_of, rI, rV, rL, rP, rT, rZ_of, rC_of, if_pos, if_neg, if_true, if_false]
theorem area_of (N : Nat) (hc : CvC S c n s z) (h : CP S c0 n s z) (h0 : 1 ≤ n) (hn : n ≤ 48) (hb : CvB n s) {k : Int} (h1 : 0 ≤ k) (h2 : k < pkC n s) (hN : 100 ≤ N) : f_X5_area N S c0 c k = some (arQ n s z k, S) := by
  have q := q_in h0 hn hb h1 h2
  have f1 := fsQ_in (z := z) h0 hn hb h1 h2
  have f2 := lsQ_in (z := z) h0 hn hb h1 h2
  have ed : f_X5_deathOf N S c0 k = some (qD n s k, S) := deathC_of N h h0 hn hb h1 h2
  unfold f_X5_area
  rw [basinStart_of N hc h h0 hn hb h1 h2 hN, bI_of, basinEnd_of N hc h h0 hn hb h1 h2 hN, bI_of, ed, bI_of]
  exact area_loop hc hn hb q.2.2.2.1 _ N _ 0 _ (by omega) (by omega) (by omega) (by omega)
theorem width_of (N : Nat) (hc : CvC S c n s z) (h : CP S c0 n s z) (h0 : 1 ≤ n) (hn : n ≤ 48) (hb : CvB n s) {k : Int} (h1 : 0 ≤ k) (h2 : k < pkC n s) (hN : 100 ≤ N) : f_X5_width N S c0 c k = some (wdQ n s k, S) := by
  have q := q_in h0 hn hb h1 h2
  have ep : f_X5_placeOf N S c0 k = some (qP n s k, S) := placeC_of N h h0 hn hb h1 h2
  have eh : f_X5_heightOf N S c0 k = some (qH n s k, S) := heightC_of N h h0 hn hb h1 h2
  have el : f_X5_persistenceOf N S c0 k = some (qL n s k, S) := persC_of N h h0 hn hb h1 h2
  unfold f_X5_width
  simp (disch := omega) only [ep, eh, el, gI, uI, cI_of, aI_of, sI_of, mnI_of, mxI_of, abI_of, dvI_of, rmI_of, bI_of, bV_of, rI, rV, rL, rP, rT, rZ_of, rC_of, if_pos, if_neg, if_true, if_false]
  rw [runEnd_of N hc hb hn (by omega) (by omega) (by omega) (by omega) hN, bI_of, runStart_of N hc hb hn (by omega) (by omega) (by omega) (by omega) hN]
  rfl
theorem wd_in (h0 : 1 ≤ n) (hn : n ≤ 48) (hb : CvB n s) {k : Int} (h1 : 0 ≤ k) (h2 : k < pkC n s) : 0 ≤ wdQ n s k ∧ wdQ n s k ≤ 200 := by
  have q := q_in h0 hn hb h1 h2
  have r1 := reF_in (s := s) (h := qH n s k - qL n s k / 2) (n - 1 - qP n s k).toNat (qP n s k)
  have r2 := rsF_in (s := s) (h := qH n s k - qL n s k / 2) (qP n s k).toNat
  unfold wdQ; omega
theorem parentC_of (N : Nat) (h : CP S c0 n s z) (h0 : 1 ≤ n) (hn : n ≤ 48) (hb : CvB n s) {k : Int} (h1 : 0 ≤ k) (h2 : k < pkC n s) : ∃ v, f_X5_parentOf N S c0 k = some (v, S) ∧ ((qA n s k = -1 ∧ v = -1) ∨ (qA n s k ≠ -1 ∧ 0 ≤ v ∧ v < pkC n s ∧ pkW n s v = qA n s k)) := by
  have f := pk_facts h0 hn hb
  have w := (pkW_ok h0 hn hb).range f.1.1 k h1 h2
  have e11 := (h.2.2.2 k h1 h2).1
  have e9 : S.1 (c0 + 9) (pkW n s k) = qA n s k := (h.2.2.1 _ w.1 w.2).2.2.2.2.1
  have pa := pkA_in h0 hn hb _ w.1 w.2
  have pa : qA n s k = -1 ∨ (0 ≤ qA n s k ∧ qA n s k < pkW n s k) := pa
  by_cases g : qA n s k = -1
  · refine ⟨-1, ?_, Or.inl ⟨g, rfl⟩⟩
    unfold f_X5_parentOf
    simp (disch := omega) only [e11, e9, gI, uI, cI_of, aI_of, sI_of, mnI_of, mxI_of, abI_of, dvI_of, rmI_of, bI_of, bV_of, rI, rV, rL, rP, rT, rZ_of, rC_of, if_pos, if_neg, if_true, if_false]
  · -- its number
    have sur : ∃ v, 0 ≤ v ∧ v < pkC n s ∧ pkW n s v = qA n s k := by
      obtain ⟨w0, w1⟩ := pkW_ok h0 hn hb
      by_cases e : qA n s k = 0
      · exact ⟨0, by omega, by omega, by rw [w0, e]⟩
      · obtain ⟨v, v1, v2, v3⟩ := w1.2.2 (qA n s k) (by omega) (by omega)
        exact ⟨v, by omega, v2, v3⟩
    obtain ⟨v, v1, v2, v3⟩ := sur
    have e12 := (h.2.2.2 v v1 v2).2
    rw [v3] at e12
    refine ⟨v, ?_, Or.inr ⟨g, v1, v2, v3⟩⟩
    unfold f_X5_parentOf
    simp (disch := omega) only [e11, e9, e12, gI, uI, cI_of, aI_of, sI_of, mnI_of, mxI_of, abI_of, dvI_of, rmI_of, bI_of, bV_of, rI, rV, rL, rP, rT, rZ_of, rC_of, if_pos, if_neg, if_true, if_false]
theorem sumPers_loop (h : CP S c0 n s z) (h0 : 1 ≤ n) (hn : n ≤ 48) (hb : CvB n s) {m : Int} (hm : m ≤ pkC n s) : ∀ (d N : Nat) (i a : Int), 0 ≤ i → i + d = m → d < N → f_X5_sumOfPersistences_4 c0 N m a i S = some (sumF (qL n s) d i a, S) := by
  have pf := (pk_facts h0 hn hb).1
  intro d
  induction d with
  | zero =>
    intro N i a hi0 hi hN
    obtain ⟨N, rfl⟩ : ∃ M, N = M + 1 := ⟨N - 1, by omega⟩
    rw [f_X5_sumOfPersistences_4]
    simp (disch := omega) only [gI, uI, cI_of, aI_of, sI_of, mnI_of, mxI_of, abI_of, dvI_of, rmI_of, bI_of, bV_of, rI, rV, rL, rP, rT, rZ_of, rC_of, if_pos, if_neg, if_true, if_false]
    rfl
  | succ d ih =>
    intro N i a hi0 hi hN
    obtain ⟨N, rfl⟩ : ∃ M, N = M + 1 := ⟨N - 1, by omega⟩
    have el : f_X5_persistenceOf N S c0 i = some (qL n s i, S) := persC_of N h h0 hn hb hi0 (by omega)
    show _ = some (sumF (qL n s) d (i + 1) (a + qL n s i), S)
    rw [f_X5_sumOfPersistences_4, ← ih N (i + 1) (a + qL n s i) (by omega) (by omega) (by omega)]
    simp (disch := omega) only [el, gI, uI, cI_of, aI_of, sI_of, mnI_of, mxI_of, abI_of, dvI_of, rmI_of, bI_of, bV_of, rI, rV, rL, rP, rT, rZ_of, rC_of, if_pos, if_neg, if_true, if_false]
theorem sumPers_of (N : Nat) (h : CP S c0 n s z) (h0 : 1 ≤ n) (hn : n ≤ 48) (hb : CvB n s) {m : Int} (hm0 : 0 ≤ m) (hm : m ≤ pkC n s) (hN : 100 ≤ N) : f_X5_sumOfPersistences N S c0 m = some (sumF (qL n s) m.toNat 0 0, S) := by
  have pf := (pk_facts h0 hn hb).1
  exact sumPers_loop h h0 hn hb hm m.toNat N 0 0 (by omega) (by omega) (by omega)
/-- the first of d from i on for which c holds -/
def fiF (c : Int → Prop) [DecidablePred c] : Nat → Int → Int
  | 0, _ => -1
  | d + 1, i => if c i then i else fiF c d (i + 1)
theorem beginAt_loop (h : CP S c0 n s z) (h0 : 1 ≤ n) (hn : n ≤ 48) (hb : CvB n s) {p : Int} (hp : 0 ≤ p ∧ p < 48) : ∀ (d N : Nat) (i : Int), 0 ≤ i → i + d = pkC n s → d < N → f_X5_beginningAt_2 c0 N p i S = some (fiF (fun k => qP n s k = p) d i, S) := by
  have pf := (pk_facts h0 hn hb).1
  have e0 := h.1
  intro d
  induction d with
  | zero =>
    intro N i hi0 hi hN
    obtain ⟨N, rfl⟩ : ∃ M, N = M + 1 := ⟨N - 1, by omega⟩
    rw [f_X5_beginningAt_2]
    simp (disch := omega) only [e0, gI, uI, cI_of, aI_of, sI_of, mnI_of, mxI_of, abI_of, dvI_of, rmI_of, bI_of, bV_of, rI, rV, rL, rP, rT, rZ_of, rC_of, if_pos, if_neg, if_true, if_false]
    rfl
  | succ d ih =>
    intro N i hi0 hi hN
    obtain ⟨N, rfl⟩ : ∃ M, N = M + 1 := ⟨N - 1, by omega⟩
    have ep : f_X5_placeOf N S c0 i = some (qP n s i, S) := placeC_of N h h0 hn hb hi0 (by omega)
    have q := (q_in h0 hn hb hi0 (by omega : i < pkC n s)).1
    rw [fiF]
    by_cases g : qP n s i = p
    · rw [f_X5_beginningAt_2]
      simp (disch := omega) only [e0, ep, gI, uI, cI_of, aI_of, sI_of, mnI_of, mxI_of, abI_of, dvI_of, rmI_of, bI_of, bV_of, rI, rV, rL, rP, rT, rZ_of, rC_of, if_pos, if_neg, if_true, if_false]
    · rw [if_neg g, ← ih N (i + 1) (by omega) (by omega) (by omega), f_X5_beginningAt_2]
      simp (disch := omega) only [e0, ep, gI, uI, cI_of, aI_of, sI_of, mnI_of, mxI_of, abI_of, dvI_of, rmI_of, bI_of, bV_of, rI, rV, rL, rP, rT, rZ_of, rC_of, if_pos, if_neg, if_true, if_false]
theorem beginAt_of (N : Nat) (h : CP S c0 n s z) (h0 : 1 ≤ n) (hn : n ≤ 48) (hb : CvB n s) {p : Int} (hp : 0 ≤ p ∧ p < 48) (hN : 100 ≤ N) : f_X5_beginningAt N S c0 p = some (fiF (fun k => qP n s k = p) (pkC n s).toNat 0, S) := by
  have pf := (pk_facts h0 hn hb).1
  exact beginAt_loop h h0 hn hb hp (pkC n s).toNat N 0 (by omega) (by omega) (by omega)
theorem withBasin_loop (hc : CvC S c n s z) (h : CP S c0 n s z) (h0 : 1 ≤ n) (hn : n ≤ 48) (hb : CvB n s) {p : Int} (hp : 0 ≤ p ∧ p < 48) : ∀ (d N : Nat) (i : Int), 0 ≤ i → i + d = pkK n s z → d + 100 < N → f_X5_withBasinAt_2 c0 c N p i S = some (fiF (fun k => fsQ n s z k ≤ p ∧ p ≤ lsQ n s z k) d i, S) := by
  have pf := (pk_facts h0 hn hb).1
  have kk := pkK_in (z := z) h0 hn hb
  have e1 := h.2.1
  intro d
  induction d with
  | zero =>
    intro N i hi0 hi hN
    obtain ⟨N, rfl⟩ : ∃ M, N = M + 1 := ⟨N - 1, by omega⟩
    rw [f_X5_withBasinAt_2]
    simp (disch := omega) only [e1, gI, uI, cI_of, aI_of, sI_of, mnI_of, mxI_of, abI_of, dvI_of, rmI_of, bI_of, bV_of, rI, rV, rL, rP, rT, rZ_of, rC_of, if_pos, if_neg, if_true, if_false]
    rfl
  | succ d ih =>
    intro N i hi0 hi hN
    obtain ⟨N, rfl⟩ : ∃ M, N = M + 1 := ⟨N - 1, by omega⟩
    have ic : i < pkC n s := by omega
    have q := (q_in h0 hn hb hi0 ic).1
    have f1 := fsQ_in (z := z) h0 hn hb hi0 ic
    have f2 := lsQ_in (z := z) h0 hn hb hi0 ic
    have es := basinStart_of N hc h h0 hn hb hi0 ic (by omega)
    have ee := basinEnd_of N hc h h0 hn hb hi0 ic (by omega)
    rw [fiF]
    by_cases g1 : p < fsQ n s z i
    · rw [if_neg (by omega), ← ih N (i + 1) (by omega) (by omega) (by omega), f_X5_withBasinAt_2]
      simp (disch := omega) only [e1, es, f_X5_withBasinAt_32, gI, uI, cI_of, aI_of, sI_of, mnI_of, mxI_of, abI_of, dvI_of, rmI_of, bI_of, bV_of, rI, rV, rL, rP, rT, rZ_of, rC_of, if_pos, if_neg, if_true, if_false]
    · by_cases g2 : lsQ n s z i < p
      · rw [if_neg (by omega), ← ih N (i + 1) (by omega) (by omega) (by omega), f_X5_withBasinAt_2]
        simp (disch := omega) only [e1, es, ee, f_X5_withBasinAt_32, gI, uI, cI_of, aI_of, sI_of, mnI_of, mxI_of, abI_of, dvI_of, rmI_of, bI_of, bV_of, rI, rV, rL, rP, rT, rZ_of, rC_of, if_pos, if_neg, if_true, if_false]
      · rw [if_pos (by omega), f_X5_withBasinAt_2]
        simp (disch := omega) only [e1, es, ee, gI, uI, cI_of, aI_of, sI_of, mnI_of, mxI_of, abI_of, dvI_of, rmI_of, bI_of, bV_of, rI, rV, rL, rP, rT, rZ_of, rC_of, if_pos, if_neg, if_true, if_false]
theorem withBasin_of (N : Nat) (hc : CvC S c n s z) (h : CP S c0 n s z) (h0 : 1 ≤ n) (hn : n ≤ 48) (hb : CvB n s) {p : Int} (hp : 0 ≤ p ∧ p < 48) (hN : 200 ≤ N) : f_X5_withBasinAt N S c0 c p = some (fiF (fun k => fsQ n s z k ≤ p ∧ p ≤ lsQ n s z k) (pkK n s z).toNat 0, S) := by
  have kk := pkK_in (z := z) h0 hn hb
  have pf := (pk_facts h0 hn hb).1
  exact withBasin_loop hc h h0 hn hb hp (pkK n s z).toNat N 0 (by omega) (by omega) (by omega)
end READSC
section READS6
variable {S : S2} {n z : Int} {s : Int → Int}
theorem sumPlaces_of (N : Nat) (h : CP S 6 n s z) (h0 : 1 ≤ n) (hn : n ≤ 48) (hb : CvB n s) (hN : 100 ≤ N) : f_X10_sumOfPlaces N S = some (sumF (qP n s) (pkK n s z).toNat 0 0, S) := by
  have kk := pkK_in (z := z) h0 hn hb
  have pf := (pk_facts h0 hn hb).1
  have e1 := h.2.1
  have loop : ∀ (d N : Nat) (i a : Int), 0 ≤ i → i + d = pkK n s z → d < N → f_X10_sumOfPlaces_4 N a i S = some (sumF (qP n s) d i a, S) := by
    intro d
    induction d with
    | zero =>
      intro N i a hi0 hi hN
      obtain ⟨N, rfl⟩ : ∃ M, N = M + 1 := ⟨N - 1, by omega⟩
      rw [f_X10_sumOfPlaces_4]
      simp (disch := omega) only [e1, gI, uI, cI_of, aI_of, sI_of, mnI_of, mxI_of, abI_of, dvI_of, rmI_of, bI_of, bV_of, rI, rV, rL, rP, rT, rZ_of, rC_of, if_pos, if_neg, if_true, if_false]
      rfl
    | succ d ih =>
      intro N i a hi0 hi hN
      obtain ⟨N, rfl⟩ : ∃ M, N = M + 1 := ⟨N - 1, by omega⟩
      have el : f_X5_placeOf N S 6 i = some (qP n s i, S) := placeC_of N h h0 hn hb hi0 (by omega)
      show _ = some (sumF (qP n s) d (i + 1) (a + qP n s i), S)
      rw [f_X10_sumOfPlaces_4, ← ih N (i + 1) (a + qP n s i) (by omega) (by omega) (by omega)]
      simp (disch := omega) only [e1, el, gI, uI, cI_of, aI_of, sI_of, mnI_of, mxI_of, abI_of, dvI_of, rmI_of, bI_of, bV_of, rI, rV, rL, rP, rT, rZ_of, rC_of, if_pos, if_neg, if_true, if_false]
  exact loop (pkK n s z).toNat N 0 0 (by omega) (by omega) (by omega)
theorem sumAreas_of (N : Nat) (hc : CvC S 4 n s z) (h : CP S 6 n s z) (h0 : 1 ≤ n) (hn : n ≤ 48) (hb : CvB n s) (hN : 200 ≤ N) : f_X10_sumOfAreas N S = some (sumF (arQ n s z) (pkK n s z).toNat 0 0, S) := by
  have kk := pkK_in (z := z) h0 hn hb
  have pf := (pk_facts h0 hn hb).1
  have e1 := h.2.1
  have loop : ∀ (d N : Nat) (i a : Int), 0 ≤ i → i + d = pkK n s z → d + 100 < N → f_X10_sumOfAreas_4 N a i S = some (sumF (arQ n s z) d i a, S) := by
    intro d
    induction d with
    | zero =>
      intro N i a hi0 hi hN
      obtain ⟨N, rfl⟩ : ∃ M, N = M + 1 := ⟨N - 1, by omega⟩
      rw [f_X10_sumOfAreas_4]
      simp (disch := omega) only [e1, gI, uI, cI_of, aI_of, sI_of, mnI_of, mxI_of, abI_of, dvI_of, rmI_of, bI_of, bV_of, rI, rV, rL, rP, rT, rZ_of, rC_of, if_pos, if_neg, if_true, if_false]
      rfl
    | succ d ih =>
      intro N i a hi0 hi hN
      obtain ⟨N, rfl⟩ : ∃ M, N = M + 1 := ⟨N - 1, by omega⟩
      have el := area_of N hc h h0 hn hb hi0 (by omega : i < pkC n s) (by omega)
      show _ = some (sumF (arQ n s z) d (i + 1) (a + arQ n s z i), S)
      rw [f_X10_sumOfAreas_4, ← ih N (i + 1) (a + arQ n s z i) (by omega) (by omega) (by omega)]
      simp (disch := omega) only [e1, el, gI, uI, cI_of, aI_of, sI_of, mnI_of, mxI_of, abI_of, dvI_of, rmI_of, bI_of, bV_of, rI, rV, rL, rP, rT, rZ_of, rC_of, if_pos, if_neg, if_true, if_false]
  exact loop (pkK n s z).toNat N 0 0 (by omega) (by omega) (by omega)
theorem greatestGen_of (N : Nat) (h : CP S 6 n s z) (h0 : 1 ≤ n) (hn : n ≤ 48) (hb : CvB n s) (hN : 100 ≤ N) : f_X10_greatestGeneration N S = some (maxF (qG n s) (pkC n s).toNat 0 0, S) := by
  have pf := (pk_facts h0 hn hb).1
  have e0 := h.1
  have loop : ∀ (d N : Nat) (i a : Int), 0 ≤ i → i + d = pkC n s → d < N → 0 ≤ a → a ≤ 99 → f_X10_greatestGeneration_4 N a i S = some (maxF (qG n s) d i a, S) := by
    intro d
    induction d with
    | zero =>
      intro N i a hi0 hi hN ha1 ha2
      obtain ⟨N, rfl⟩ : ∃ M, N = M + 1 := ⟨N - 1, by omega⟩
      rw [f_X10_greatestGeneration_4]
      simp (disch := omega) only [e0, gI, uI, cI_of, aI_of, sI_of, mnI_of, mxI_of, abI_of, dvI_of, rmI_of, bI_of, bV_of, rI, rV, rL, rP, rT, rZ_of, rC_of, if_pos, if_neg, if_true, if_false]
      rfl
    | succ d ih =>
      intro N i a hi0 hi hN ha1 ha2
      obtain ⟨N, rfl⟩ : ∃ M, N = M + 1 := ⟨N - 1, by omega⟩
      have ic : i < pkC n s := by omega
      have q := (q_in h0 hn hb hi0 ic).2.2.2.2.1
      have el : f_X5_generationOf N S 6 i = some (qG n s i, S) := genC_of N h h0 hn hb hi0 ic
      show _ = some (maxF (qG n s) d (i + 1) (max a (qG n s i)), S)
      rw [f_X10_greatestGeneration_4, ← ih N (i + 1) (max a (qG n s i)) (by omega) (by omega) (by omega) (by omega) (by omega)]
      simp (disch := omega) only [e0, el, gI, uI, cI_of, aI_of, sI_of, mnI_of, mxI_of, abI_of, dvI_of, rmI_of, bI_of, bV_of, rI, rV, rL, rP, rT, rZ_of, rC_of, if_pos, if_neg, if_true, if_false]
  exact loop (pkC n s).toNat N 0 0 (by omega) (by omega) (by omega) (by omega) (by omega)
/-- the first with the greatest w -/
def wdF (w : Int → Int) (d : Nat) (i a : Int) : Int := fld (fun a i => if w a < w i then i else a) d i a
theorem widestKept_of (N : Nat) (hc : CvC S 4 n s z) (h : CP S 6 n s z) (h0 : 1 ≤ n) (hn : n ≤ 48) (hb : CvB n s) (hN : 200 ≤ N) : f_X10_widestKept N S = some (wdF (wdQ n s) ((pkK n s z).toNat - 1) 1 0, S) := by
  have kk := pkK_in (z := z) h0 hn hb
  have pf := (pk_facts h0 hn hb).1
  have e1 := h.2.1
  have loop : ∀ (d N : Nat) (i a : Int), 1 ≤ i → i + d = pkK n s z → d + 100 < N → 0 ≤ a → a < i → f_X10_widestKept_4 N a i S = some (wdF (wdQ n s) d i a, S) := by
    intro d
    induction d with
    | zero =>
      intro N i a hi0 hi hN ha1 ha2
      obtain ⟨N, rfl⟩ : ∃ M, N = M + 1 := ⟨N - 1, by omega⟩
      rw [f_X10_widestKept_4]
      simp (disch := omega) only [e1, gI, uI, cI_of, aI_of, sI_of, mnI_of, mxI_of, abI_of, dvI_of, rmI_of, bI_of, bV_of, rI, rV, rL, rP, rT, rZ_of, rC_of, if_pos, if_neg, if_true, if_false]
      rfl
    | succ d ih =>
      intro N i a hi0 hi hN ha1 ha2
      obtain ⟨N, rfl⟩ : ∃ M, N = M + 1 := ⟨N - 1, by omega⟩
      have ic : i < pkC n s := by omega
      have w1 := width_of N hc h h0 hn hb (by omega : 0 ≤ i) ic (by omega)
      have w2 := width_of N hc h h0 hn hb ha1 (by omega : a < pkC n s) (by omega)
      have b1 := wd_in h0 hn hb (by omega : 0 ≤ i) ic
      have b2 := wd_in h0 hn hb ha1 (by omega : a < pkC n s)
      show _ = some (wdF (wdQ n s) d (i + 1) (if wdQ n s a < wdQ n s i then i else a), S)
      by_cases g : wdQ n s i ≤ wdQ n s a
      · rw [if_neg (by omega), ← ih N (i + 1) a (by omega) (by omega) (by omega) (by omega) (by omega), f_X10_widestKept_4]
        simp (disch := omega) only [e1, w1, w2, f_X10_widestKept_44, gI, uI, cI_of, aI_of, sI_of, mnI_of, mxI_of, abI_of, dvI_of, rmI_of, bI_of, bV_of, rI, rV, rL, rP, rT, rZ_of, rC_of, if_pos, if_neg, if_true, if_false]
      · rw [if_pos (by omega), ← ih N (i + 1) i (by omega) (by omega) (by omega) (by omega) (by omega), f_X10_widestKept_4]
        simp (disch := omega) only [e1, w1, w2, f_X10_widestKept_44, gI, uI, cI_of, aI_of, sI_of, mnI_of, mxI_of, abI_of, dvI_of, rmI_of, bI_of, bV_of, rI, rV, rL, rP, rT, rZ_of, rC_of, if_pos, if_neg, if_true, if_false]
  exact loop ((pkK n s z).toNat - 1) N 1 0 (by omega) (by omega) (by omega) (by omega) (by omega)
end READS6
