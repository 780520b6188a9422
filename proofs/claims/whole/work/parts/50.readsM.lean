/-! basins, areas, widths; what is told of all peaks: the reference -/
theorem lpF_nat {s : Int → Int} {d e : Nat} {i a : Int} (h : d = e) : lpF s d i a = lpF s e i a := by rw [h]
section READSM
variable {S : S2} {n z : Int} {s : Int → Int}
theorem heightM_of (N : Nat) (hc : CvM S 8 n s z) (h : MPk S n s z) (h0 : 1 ≤ n) (hn : n ≤ 48) (hb : CvB n s) {k : Int} (h1 : 0 ≤ k) (h2 : k < pkC n s) : f_X11_height N S k = some (qH n s k, S) := by
  have q := (q_in h0 hn hb h1 h2).1
  have e := hc.2.2 _ q.1 q.2
  unfold f_X11_height
  simp (disch := omega) only [placeM_of N h h0 hn hb h1 h2, e, gI, uI, cI_of, aI_of, sI_of, mnI_of, mxI_of, abI_of, dvI_of, rmI_of, bI_of, bV_of, rI, rV, rL, rP, rT, rZ_of, rC_of, if_pos, if_neg, if_true, if_false]
  rfl
theorem lifeK_of (N : Nat) (hc : CvM S 8 n s z) (h : MPk S n s z) (h0 : 1 ≤ n) (hn : n ≤ 48) (hb : CvB n s) {k : Int} (h1 : 0 ≤ k) (h2 : k < pkC n s) : f_X11_life N S k = some (qL n s k, S) := by
  have f := pk_facts h0 hn hb
  have w := (pkW_ok h0 hn hb).range f.1.1 k h1 h2
  have e := (h.2.1 k h1 h2).1
  unfold f_X11_life
  simp (disch := omega) only [e, lifeM_of N h.1 hc h0 hn hb w.1 w.2, gI, uI, cI_of, aI_of, sI_of, mnI_of, mxI_of, abI_of, dvI_of, rmI_of, bI_of, bV_of, rI, rV, rL, rP, rT, rZ_of, rC_of, if_pos, if_neg, if_true, if_false]
  rfl
theorem isKept_of (N : Nat) (h : MPk S n s z) (h0 : 1 ≤ n) (hn : n ≤ 48) (hb : CvB n s) {k : Int} (h1 : -2147483648 ≤ k) (h2 : k ≤ 2147483647) : f_X11_isKept N S k = some (if 0 ≤ k ∧ k < pkK n s z then 1 else 0, S) := by
  have kk := pkK_in (z := z) h0 hn hb
  have pf := (pk_facts h0 hn hb).1
  have e := h.2.2
  unfold f_X11_isKept
  by_cases g : 0 ≤ k ∧ k < pkK n s z
  · rw [if_pos g]
    simp (disch := omega) only [e, in_y N, gI, uI, cI_of, aI_of, sI_of, mnI_of, mxI_of, abI_of, dvI_of, rmI_of, bI_of, bV_of, rI, rV, rL, rP, rT, rZ_of, rC_of, if_pos, if_neg, if_true, if_false]
  · rw [if_neg g]
    simp (disch := omega) only [e, in_n N, gI, uI, cI_of, aI_of, sI_of, mnI_of, mxI_of, abI_of, dvI_of, rmI_of, bI_of, bV_of, rI, rV, rL, rP, rT, rZ_of, rC_of, if_pos, if_neg, if_true, if_false]
theorem besideL_loop (h : MPk S n s z) (h0 : 1 ≤ n) (hn : n ≤ 48) (hb : CvB n s) {own : Int} (ho : 0 ≤ own ∧ own < 48) : ∀ (d N : Nat) (i b : Int), 0 ≤ i → i + d = pkK n s z → d < N → (b = -1 ∨ (0 ≤ b ∧ b < i ∧ qP n s b < own)) → ∃ b', f_X11_beside_5 N own (-1) b i S = some (b', S) ∧ (b' = -1 ∨ (0 ≤ b' ∧ b' < pkK n s z)) ∧ blF (qP n s) own d i (if b = -1 then -1 else qP n s b) = (if b' = -1 then -1 else qP n s b') := by
  have kk := pkK_in (z := z) h0 hn hb
  have pf := (pk_facts h0 hn hb).1
  have e1 := h.2.2
  intro d
  induction d with
  | zero =>
    intro N i b hi0 hi hN hbb
    obtain ⟨N, rfl⟩ : ∃ M, N = M + 1 := ⟨N - 1, by omega⟩
    refine ⟨b, ?_, by omega, rfl⟩
    rw [f_X11_beside_5]
    simp (disch := omega) only [e1, gI, uI, cI_of, aI_of, sI_of, mnI_of, mxI_of, abI_of, dvI_of, rmI_of, bI_of, bV_of, rI, rV, rL, rP, rT, rZ_of, rC_of, if_pos, if_neg, if_true, if_false]
  | succ d ih =>
    intro N i b hi0 hi hN hbb
    obtain ⟨N, rfl⟩ : ∃ M, N = M + 1 := ⟨N - 1, by omega⟩
    have ic : i < pkC n s := by omega
    have ep := placeM_of N h h0 hn hb hi0 ic
    have q := (q_in h0 hn hb hi0 ic).1
    have e : ∀ a, blF (qP n s) own (d + 1) i a = blF (qP n s) own d (i + 1) (if qP n s i < own ∧ a < qP n s i then qP n s i else a) := fun _ => rfl
    by_cases g1 : own ≤ qP n s i
    · obtain ⟨b', f1, f2, f3⟩ := ih N (i + 1) b (by omega) (by omega) (by omega) (by omega)
      refine ⟨b', ?_, f2, ?_⟩
      · rw [← f1, f_X11_beside_5]
        simp (disch := omega) only [e1, ep, f_X11_beside_51, f_X11_beside_90, f_X11_beside_91, gI, uI, cI_of, aI_of, sI_of, mnI_of, mxI_of, abI_of, dvI_of, rmI_of, bI_of, bV_of, rI, rV, rL, rP, rT, rZ_of, rC_of, if_pos, if_neg, if_true, if_false]
      · rw [← f3, e, if_neg (by omega)]
    · by_cases g2 : b = -1
      · obtain ⟨b', f1, f2, f3⟩ := ih N (i + 1) i (by omega) (by omega) (by omega) (by omega)
        refine ⟨b', ?_, f2, ?_⟩
        · rw [← f1, f_X11_beside_5]
          simp (disch := omega) only [e1, ep, f_X11_beside_51, f_X11_beside_85, f_X11_beside_91, gI, uI, cI_of, aI_of, sI_of, mnI_of, mxI_of, abI_of, dvI_of, rmI_of, bI_of, bV_of, rI, rV, rL, rP, rT, rZ_of, rC_of, if_pos, if_neg, if_true, if_false]
        · rw [← f3, e, if_pos g2, if_pos (by omega), if_neg (by omega)]
      · have hb2 : 0 ≤ b ∧ b < i ∧ qP n s b < own := hbb.elim (fun x => absurd x g2) id
        have epb := placeM_of N h h0 hn hb hb2.1 (by omega : b < pkC n s)
        have qb := (q_in h0 hn hb hb2.1 (by omega : b < pkC n s)).1
        have a1 : f_X11_apart N S (qP n s i) own = some (max (qP n s i - own) (own - qP n s i), S) := apart_of N (by omega) (by omega) (by omega) (by omega)
        have a2 : f_X11_apart N S (qP n s b) own = some (max (qP n s b - own) (own - qP n s b), S) := apart_of N (by omega) (by omega) (by omega) (by omega)
        by_cases g3 : qP n s b < qP n s i
        · obtain ⟨b', f1, f2, f3⟩ := ih N (i + 1) i (by omega) (by omega) (by omega) (by omega)
          refine ⟨b', ?_, f2, ?_⟩
          · rw [← f1, f_X11_beside_5]
            simp (disch := omega) only [e1, ep, epb, a1, a2, f_X11_beside_51, f_X11_beside_85, f_X11_beside_91, gI, uI, cI_of, aI_of, sI_of, mnI_of, mxI_of, abI_of, dvI_of, rmI_of, bI_of, bV_of, rI, rV, rL, rP, rT, rZ_of, rC_of, if_pos, if_neg, if_true, if_false]
          · rw [← f3, e, if_neg g2, if_pos (by omega), if_neg (by omega)]
        · obtain ⟨b', f1, f2, f3⟩ := ih N (i + 1) b (by omega) (by omega) (by omega) (by omega)
          refine ⟨b', ?_, f2, ?_⟩
          · rw [← f1, f_X11_beside_5]
            simp (disch := omega) only [e1, ep, epb, a1, a2, f_X11_beside_51, f_X11_beside_90, f_X11_beside_91, gI, uI, cI_of, aI_of, sI_of, mnI_of, mxI_of, abI_of, dvI_of, rmI_of, bI_of, bV_of, rI, rV, rL, rP, rT, rZ_of, rC_of, if_pos, if_neg, if_true, if_false]
          · rw [← f3, e, if_neg g2, if_neg (by omega)]
theorem besideR_loop (h : MPk S n s z) (h0 : 1 ≤ n) (hn : n ≤ 48) (hb : CvB n s) {own : Int} (ho : 0 ≤ own ∧ own < 48) : ∀ (d N : Nat) (i b : Int), 0 ≤ i → i + d = pkK n s z → d < N → (b = -1 ∨ (0 ≤ b ∧ b < i ∧ own < qP n s b)) → ∃ b', f_X11_beside_5 N own 1 b i S = some (b', S) ∧ (b' = -1 ∨ (0 ≤ b' ∧ b' < pkK n s z)) ∧ brF (qP n s) own d i (if b = -1 then n else qP n s b) = (if b' = -1 then n else qP n s b') := by
  have kk := pkK_in (z := z) h0 hn hb
  have pf := (pk_facts h0 hn hb).1
  have e1 := h.2.2
  intro d
  induction d with
  | zero =>
    intro N i b hi0 hi hN hbb
    obtain ⟨N, rfl⟩ : ∃ M, N = M + 1 := ⟨N - 1, by omega⟩
    refine ⟨b, ?_, by omega, rfl⟩
    rw [f_X11_beside_5]
    simp (disch := omega) only [e1, gI, uI, cI_of, aI_of, sI_of, mnI_of, mxI_of, abI_of, dvI_of, rmI_of, bI_of, bV_of, rI, rV, rL, rP, rT, rZ_of, rC_of, if_pos, if_neg, if_true, if_false]
  | succ d ih =>
    intro N i b hi0 hi hN hbb
    obtain ⟨N, rfl⟩ : ∃ M, N = M + 1 := ⟨N - 1, by omega⟩
    have ic : i < pkC n s := by omega
    have ep := placeM_of N h h0 hn hb hi0 ic
    have q := (q_in h0 hn hb hi0 ic).1
    have e : ∀ a, brF (qP n s) own (d + 1) i a = brF (qP n s) own d (i + 1) (if own < qP n s i ∧ qP n s i < a then qP n s i else a) := fun _ => rfl
    by_cases g1 : qP n s i ≤ own
    · obtain ⟨b', f1, f2, f3⟩ := ih N (i + 1) b (by omega) (by omega) (by omega) (by omega)
      refine ⟨b', ?_, f2, ?_⟩
      · rw [← f1, f_X11_beside_5]
        simp (disch := omega) only [e1, ep, f_X11_beside_51, f_X11_beside_90, f_X11_beside_91, gI, uI, cI_of, aI_of, sI_of, mnI_of, mxI_of, abI_of, dvI_of, rmI_of, bI_of, bV_of, rI, rV, rL, rP, rT, rZ_of, rC_of, if_pos, if_neg, if_true, if_false]
      · rw [← f3, e, if_neg (by omega)]
    · by_cases g2 : b = -1
      · obtain ⟨b', f1, f2, f3⟩ := ih N (i + 1) i (by omega) (by omega) (by omega) (by omega)
        refine ⟨b', ?_, f2, ?_⟩
        · rw [← f1, f_X11_beside_5]
          simp (disch := omega) only [e1, ep, f_X11_beside_51, f_X11_beside_85, f_X11_beside_91, gI, uI, cI_of, aI_of, sI_of, mnI_of, mxI_of, abI_of, dvI_of, rmI_of, bI_of, bV_of, rI, rV, rL, rP, rT, rZ_of, rC_of, if_pos, if_neg, if_true, if_false]
        · rw [← f3, e, if_pos g2, if_pos (by omega), if_neg (by omega)]
      · have hb2 : 0 ≤ b ∧ b < i ∧ own < qP n s b := hbb.elim (fun x => absurd x g2) id
        have epb := placeM_of N h h0 hn hb hb2.1 (by omega : b < pkC n s)
        have qb := (q_in h0 hn hb hb2.1 (by omega : b < pkC n s)).1
        have a1 : f_X11_apart N S (qP n s i) own = some (max (qP n s i - own) (own - qP n s i), S) := apart_of N (by omega) (by omega) (by omega) (by omega)
        have a2 : f_X11_apart N S (qP n s b) own = some (max (qP n s b - own) (own - qP n s b), S) := apart_of N (by omega) (by omega) (by omega) (by omega)
        by_cases g3 : qP n s i < qP n s b
        · obtain ⟨b', f1, f2, f3⟩ := ih N (i + 1) i (by omega) (by omega) (by omega) (by omega)
          refine ⟨b', ?_, f2, ?_⟩
          · rw [← f1, f_X11_beside_5]
            simp (disch := omega) only [e1, ep, epb, a1, a2, f_X11_beside_51, f_X11_beside_85, f_X11_beside_91, gI, uI, cI_of, aI_of, sI_of, mnI_of, mxI_of, abI_of, dvI_of, rmI_of, bI_of, bV_of, rI, rV, rL, rP, rT, rZ_of, rC_of, if_pos, if_neg, if_true, if_false]
          · rw [← f3, e, if_neg g2, if_pos (by omega), if_neg (by omega)]
        · obtain ⟨b', f1, f2, f3⟩ := ih N (i + 1) b (by omega) (by omega) (by omega) (by omega)
          refine ⟨b', ?_, f2, ?_⟩
          · rw [← f1, f_X11_beside_5]
            simp (disch := omega) only [e1, ep, epb, a1, a2, f_X11_beside_51, f_X11_beside_90, f_X11_beside_91, gI, uI, cI_of, aI_of, sI_of, mnI_of, mxI_of, abI_of, dvI_of, rmI_of, bI_of, bV_of, rI, rV, rL, rP, rT, rZ_of, rC_of, if_pos, if_neg, if_true, if_false]
          · rw [← f3, e, if_neg g2, if_neg (by omega)]
theorem low_loop (hc : CvM S 8 n s z) (hn : n ≤ 48) (hb : CvB n s) : ∀ (d N : Nat) (i a to : Int), 0 ≤ a → a < i → a < n → i + d = to → to ≤ n → d < N → f_X11_lowBetween_9 N to a i S = some (lpF s d i a, S) := by
  intro d
  induction d with
  | zero =>
    intro N i a to h1 h2 ha h3 h4 hN
    obtain ⟨N, rfl⟩ : ∃ M, N = M + 1 := ⟨N - 1, by omega⟩
    rw [f_X11_lowBetween_9]
    simp (disch := omega) only [gI, uI, cI_of, aI_of, sI_of, mnI_of, mxI_of, abI_of, dvI_of, rmI_of, bI_of, bV_of, rI, rV, rL, rP, rT, rZ_of, rC_of, if_pos, if_neg, if_true, if_false]
    rfl
  | succ d ih =>
    intro N i a to h1 h2 ha h3 h4 hN
    obtain ⟨N, rfl⟩ : ∃ M, N = M + 1 := ⟨N - 1, by omega⟩
    have e1 := hc.2.2 i (by omega) (by omega)
    have e2 := hc.2.2 a h1 (by omega)
    have b1 := hb i (by omega) (by omega)
    have b2 := hb a h1 (by omega)
    show _ = some (lpF s d (i + 1) (if s i < s a then i else a), S)
    by_cases g : s a ≤ s i
    · rw [if_neg (by omega), ← ih N (i + 1) a to h1 (by omega) (by omega) (by omega) h4 (by omega), f_X11_lowBetween_9]
      simp (disch := omega) only [e1, e2, f_X11_lowBetween_37, gI, uI, cI_of, aI_of, sI_of, mnI_of, mxI_of, abI_of, dvI_of, rmI_of, bI_of, bV_of, rI, rV, rL, rP, rT, rZ_of, rC_of, if_pos, if_neg, if_true, if_false]
    · rw [if_pos (by omega), ← ih N (i + 1) i to (by omega) (by omega) (by omega) (by omega) h4 (by omega), f_X11_lowBetween_9]
      simp (disch := omega) only [e1, e2, f_X11_lowBetween_37, gI, uI, cI_of, aI_of, sI_of, mnI_of, mxI_of, abI_of, dvI_of, rmI_of, bI_of, bV_of, rI, rV, rL, rP, rT, rZ_of, rC_of, if_pos, if_neg, if_true, if_false]
theorem lowBetween_of (N : Nat) (hc : CvM S 8 n s z) (hn : n ≤ 48) (hb : CvB n s) {f t : Int} (h1 : -1 ≤ f) (h2 : f < t) (h3 : t ≤ n) (h4 : f + 1 < n) (hN : 100 ≤ N) : f_X11_lowBetween N S f t = some (lpF s (t - 1 - (f + 1)).toNat (f + 1 + 1) (f + 1), S) := by
  unfold f_X11_lowBetween
  by_cases g : f + 2 ≤ t
  · rw [low_loop hc hn hb (t - (f + 2)).toNat N (f + 2) (f + 1) t (by omega) (by omega) (by omega) (by omega) h3 (by omega)]
    rw [show (t - (f + 2)).toNat = (t - 1 - (f + 1)).toNat by omega, show f + 2 = f + 1 + 1 by omega]
  · obtain ⟨N, rfl⟩ : ∃ M, N = M + 1 := ⟨N - 1, by omega⟩
    rw [f_X11_lowBetween_9, show (t - 1 - (f + 1)).toNat = 0 by omega]
    simp (disch := omega) only [gI, uI, cI_of, aI_of, sI_of, mnI_of, mxI_of, abI_of, dvI_of, rmI_of, bI_of, bV_of, rI, rV, rL, rP, rT, rZ_of, rC_of, if_pos, if_neg, if_true, if_false]
    rfl
theorem firstOf_of (N : Nat) (hc : CvM S 8 n s z) (h : MPk S n s z) (h0 : 1 ≤ n) (hn : n ≤ 48) (hb : CvB n s) {k : Int} (h1 : 0 ≤ k) (h2 : k < pkC n s) (hN : 200 ≤ N) : f_X11_firstOf N S k = some (fsQ n s z k, S) := by
  have kk := pkK_in (z := z) h0 hn hb
  have pf := (pk_facts h0 hn hb).1
  have ep := placeM_of N h h0 hn hb h1 h2
  have q := (q_in h0 hn hb h1 h2).1
  have b := blF_in (P := qP n s) (own := qP n s k) (pkK n s z).toNat 0 (-1) (by omega) (by omega)
  obtain ⟨b', f1, f2, f3⟩ := besideL_loop h h0 hn hb (own := qP n s k) (by omega) (pkK n s z).toNat N 0 (-1) (by omega) (by omega) (by omega) (Or.inl rfl)
  rw [if_pos rfl] at f3
  have f3 : bsL n s z k = (if b' = -1 then -1 else qP n s b') := f3
  have b : -1 ≤ bsL n s z k ∧ bsL n s z k < qP n s k := b
  have be : f_X11_beside N S (qP n s k) (-1) = some (b', S) := f1
  unfold f_X11_firstOf fsQ
  by_cases g : b' = -1
  · rw [if_pos g] at f3
    rw [if_pos f3]
    simp (disch := omega) only [ep, be, gI, uI, cI_of, aI_of, sI_of, mnI_of, mxI_of, abI_of, dvI_of, rmI_of, bI_of, bV_of, rI, rV, rL, rP, rT, rZ_of, rC_of, if_pos, if_neg, if_true, if_false]
  · have qb := (q_in h0 hn hb (by omega : 0 ≤ b') (by omega : b' < pkC n s)).1
    rw [if_neg g] at f3
    rw [if_neg (by omega)]
    simp (disch := omega) only [ep, be, placeM_of N h h0 hn hb (by omega : 0 ≤ b') (by omega : b' < pkC n s), gI, uI, cI_of, aI_of, sI_of, mnI_of, mxI_of, abI_of, dvI_of, rmI_of, bI_of, bV_of, rI, rV, rL, rP, rT, rZ_of, rC_of, if_pos, if_neg, if_true, if_false]
    rw [f3]
    simp (disch := omega) only [lowBetween_of N hc hn hb (by omega : -1 ≤ qP n s b') (by omega : qP n s b' < qP n s k) (by omega) (by omega) (by omega : 100 ≤ N), gI, uI, cI_of, aI_of, sI_of, mnI_of, mxI_of, abI_of, dvI_of, rmI_of, bI_of, bV_of, rI, rV, rL, rP, rT, rZ_of, rC_of, if_pos, if_neg, if_true, if_false]
theorem lastOf_of (N : Nat) (hc : CvM S 8 n s z) (h : MPk S n s z) (h0 : 1 ≤ n) (hn : n ≤ 48) (hb : CvB n s) {k : Int} (h1 : 0 ≤ k) (h2 : k < pkC n s) (hN : 200 ≤ N) : f_X11_lastOf N S k = some (lsQ n s z k, S) := by
  have kk := pkK_in (z := z) h0 hn hb
  have pf := (pk_facts h0 hn hb).1
  have ep := placeM_of N h h0 hn hb h1 h2
  have q := (q_in h0 hn hb h1 h2).1
  have b := brF_in (P := qP n s) (own := qP n s k) (m := n) (pkK n s z).toNat 0 n (by omega) (by omega)
  obtain ⟨b', f1, f2, f3⟩ := besideR_loop h h0 hn hb (own := qP n s k) (by omega) (pkK n s z).toNat N 0 (-1) (by omega) (by omega) (by omega) (Or.inl rfl)
  rw [if_pos rfl] at f3
  have f3 : bsR n s z k = (if b' = -1 then n else qP n s b') := f3
  have b : qP n s k < bsR n s z k ∧ bsR n s z k ≤ n := b
  have be : f_X11_beside N S (qP n s k) 1 = some (b', S) := f1
  unfold f_X11_lastOf lsQ
  by_cases g : b' = -1
  · rw [if_pos g] at f3
    rw [if_pos f3]
    simp (disch := omega) only [ep, be, many_of N hc, gI, uI, cI_of, aI_of, sI_of, mnI_of, mxI_of, abI_of, dvI_of, rmI_of, bI_of, bV_of, rI, rV, rL, rP, rT, rZ_of, rC_of, if_pos, if_neg, if_true, if_false]
  · have qb := (q_in h0 hn hb (by omega : 0 ≤ b') (by omega : b' < pkC n s)).1
    rw [if_neg g] at f3
    rw [if_neg (by omega)]
    simp (disch := omega) only [ep, be, placeM_of N h h0 hn hb (by omega : 0 ≤ b') (by omega : b' < pkC n s), gI, uI, cI_of, aI_of, sI_of, mnI_of, mxI_of, abI_of, dvI_of, rmI_of, bI_of, bV_of, rI, rV, rL, rP, rT, rZ_of, rC_of, if_pos, if_neg, if_true, if_false]
    rw [f3]
    simp (disch := omega) only [lowBetween_of N hc hn hb (by omega : -1 ≤ qP n s k) (by omega : qP n s k < qP n s b') (by omega) (by omega) (by omega : 100 ≤ N), gI, uI, cI_of, aI_of, sI_of, mnI_of, mxI_of, abI_of, dvI_of, rmI_of, bI_of, bV_of, rI, rV, rL, rP, rT, rZ_of, rC_of, if_pos, if_neg, if_true, if_false]
theorem areaM_loop (hc : CvM S 8 n s z) (h : MPk S n s z) (h0 : 1 ≤ n) (hn : n ≤ 48) (hb : CvB n s) {k : Int} (h1 : 0 ≤ k) (h2 : k < pkC n s) : ∀ (d N : Nat) (i a : Int), 0 ≤ i → i + d = lsQ n s z k + 1 → d + 200 < N → f_X11_areaOf_8 N k a i S = some (arF s (qD n s k) d i a, S) := by
  have f := pk_facts h0 hn hb
  have w := (pkW_ok h0 hn hb).range f.1.1 k h1 h2
  have q := q_in h0 hn hb h1 h2
  have l := lsQ_in (z := z) h0 hn hb h1 h2
  have e18 := (h.2.1 k h1 h2).1
  have e15 : S.1 15 (pkW n s k) = qD n s k := (h.1.2 _ w.1 w.2).2.2.2
  intro d
  induction d with
  | zero =>
    intro N i a hi0 hi hN
    obtain ⟨N, rfl⟩ : ∃ M, N = M + 1 := ⟨N - 1, by omega⟩
    have el := lastOf_of N hc h h0 hn hb h1 h2 (by omega)
    rw [f_X11_areaOf_8]
    simp (disch := omega) only [el, gI, uI, cI_of, aI_of, sI_of, mnI_of, mxI_of, abI_of, dvI_of, rmI_of, bI_of, bV_of, rI, rV, rL, rP, rT, rZ_of, rC_of, if_pos, if_neg, if_true, if_false]
    rfl
  | succ d ih =>
    intro N i a hi0 hi hN
    obtain ⟨N, rfl⟩ : ∃ M, N = M + 1 := ⟨N - 1, by omega⟩
    have el := lastOf_of N hc h h0 hn hb h1 h2 (by omega)
    have es := hc.2.2 i hi0 (by omega)
    have bs := hb i hi0 (by omega)
    show _ = some (arF s (qD n s k) d (i + 1) (a + max 0 (s i - qD n s k)), S)
    rw [f_X11_areaOf_8, ← ih N (i + 1) (a + max 0 (s i - qD n s k)) (by omega) (by omega) (by omega)]
    simp (disch := omega) only [el, es, e18, e15, gI, uI, cI_of, aI_of, sI_of, mnI_of, mxI_of, abI_of, dvI_of, rmI_of, bI_of, bV_of, rI, rV, rL, rP, rT, rZ_of, rC_of, if_pos, if_neg, if_true, if_false]
theorem areaOf_of (N : Nat) (hc : CvM S 8 n s z) (h : MPk S n s z) (h0 : 1 ≤ n) (hn : n ≤ 48) (hb : CvB n s) {k : Int} (h1 : 0 ≤ k) (h2 : k < pkC n s) (hN : 300 ≤ N) : f_X11_areaOf N S k = some (arQ n s z k, S) := by
  have l := lsQ_in (z := z) h0 hn hb h1 h2
  have l2 := fsQ_in (z := z) h0 hn hb h1 h2
  unfold f_X11_areaOf
  rw [firstOf_of N hc h h0 hn hb h1 h2 (by omega), bI_of]
  exact areaM_loop hc h h0 hn hb h1 h2 _ N _ 0 (by omega) (by omega) (by omega)
theorem aroundR_loop (hc : CvM S 8 n s z) (hn : n ≤ 48) (hb : CvB n s) {h : Int} (hh : -2000 ≤ h ∧ h ≤ 2000) : ∀ (d N : Nat) (x c : Int), 0 ≤ x → x + d = n - 1 → d < N → f_X11_around_37 N h c (x + 1) S = some (c + (reF s h d x - x), S) := by
  intro d
  induction d with
  | zero =>
    intro N x c h0 hx hN
    obtain ⟨N, rfl⟩ : ∃ M, N = M + 1 := ⟨N - 1, by omega⟩
    rw [f_X11_around_37]
    simp (disch := omega) only [many_of N hc, gI, uI, cI_of, aI_of, sI_of, mnI_of, mxI_of, abI_of, dvI_of, rmI_of, bI_of, bV_of, rI, rV, rL, rP, rT, rZ_of, rC_of, if_pos, if_neg, if_true, if_false]
    show some (c, S) = some (c + (x - x), S)
    rw [show c + (x - x) = c by omega]
  | succ d ih =>
    intro N x c h0 hx hN
    obtain ⟨N, rfl⟩ : ∃ M, N = M + 1 := ⟨N - 1, by omega⟩
    have es := hc.2.2 (x + 1) (by omega) (by omega)
    have bs := hb (x + 1) (by omega) (by omega)
    rw [reF]
    by_cases g : s (x + 1) < h
    · rw [if_pos g, show c + (x - x) = c by omega, f_X11_around_37]
      simp (disch := omega) only [many_of N hc, es, gI, uI, cI_of, aI_of, sI_of, mnI_of, mxI_of, abI_of, dvI_of, rmI_of, bI_of, bV_of, rI, rV, rL, rP, rT, rZ_of, rC_of, if_pos, if_neg, if_true, if_false]
    · rw [if_neg g, show c + (reF s h d (x + 1) - x) = c + 1 + (reF s h d (x + 1) - (x + 1)) by omega, ← ih N (x + 1) (c + 1) (by omega) (by omega) (by omega), f_X11_around_37]
      simp (disch := omega) only [many_of N hc, es, gI, uI, cI_of, aI_of, sI_of, mnI_of, mxI_of, abI_of, dvI_of, rmI_of, bI_of, bV_of, rI, rV, rL, rP, rT, rZ_of, rC_of, if_pos, if_neg, if_true, if_false]
theorem aroundL_loop (hc : CvM S 8 n s z) (hn : n ≤ 48) (hb : CvB n s) {h : Int} (hh : -2000 ≤ h ∧ h ≤ 2000) : ∀ (d N : Nat) (x p c : Int), x = d → x ≤ n → d < N → ∀ K, f_X11_around_7 K N p h c (x - 1) S = K p h (c + (x - rsF s h d)) S := by
  intro d
  induction d with
  | zero =>
    intro N x p c hx hx2 hN K
    obtain ⟨N, rfl⟩ : ∃ M, N = M + 1 := ⟨N - 1, by omega⟩
    have hx : x = 0 := hx
    subst hx
    rw [f_X11_around_7]
    simp (disch := omega) only [gI, uI, cI_of, aI_of, sI_of, mnI_of, mxI_of, abI_of, dvI_of, rmI_of, bI_of, bV_of, rI, rV, rL, rP, rT, rZ_of, rC_of, if_pos, if_neg, if_true, if_false]
    show K p h c S = K p h (c + (0 - 0)) S
    rw [show c + ((0 : Int) - 0) = c by omega]
  | succ d ih =>
    intro N x p c hx hx2 hN K
    obtain ⟨N, rfl⟩ : ∃ M, N = M + 1 := ⟨N - 1, by omega⟩
    have es := hc.2.2 (x - 1) (by omega) (by omega)
    have bs := hb (x - 1) (by omega) (by omega)
    have ed : x - 1 = (d : Int) := by omega
    rw [rsF, ← ed]
    by_cases g : s (x - 1) < h
    · rw [if_pos g, show c + (x - (x - 1 + 1)) = c by omega, f_X11_around_7]
      simp (disch := omega) only [es, gI, uI, cI_of, aI_of, sI_of, mnI_of, mxI_of, abI_of, dvI_of, rmI_of, bI_of, bV_of, rI, rV, rL, rP, rT, rZ_of, rC_of, if_pos, if_neg, if_true, if_false]
    · rw [if_neg g, show c + (x - rsF s h d) = c + 1 + (x - 1 - rsF s h d) by omega, ← ih N (x - 1) p (c + 1) ed (by omega) (by omega) K, f_X11_around_7]
      simp (disch := omega) only [es, gI, uI, cI_of, aI_of, sI_of, mnI_of, mxI_of, abI_of, dvI_of, rmI_of, bI_of, bV_of, rI, rV, rL, rP, rT, rZ_of, rC_of, if_pos, if_neg, if_true, if_false]
      rw [show x - 1 + (-1) = x - 1 - 1 by omega]
theorem widthOf_of (N : Nat) (hc : CvM S 8 n s z) (h : MPk S n s z) (h0 : 1 ≤ n) (hn : n ≤ 48) (hb : CvB n s) {k : Int} (h1 : 0 ≤ k) (h2 : k < pkC n s) (hN : 200 ≤ N) : f_X11_widthOf N S k = some (wdQ n s k, S) := by
  have q := q_in h0 hn hb h1 h2
  unfold f_X11_widthOf
  simp (disch := omega) only [placeM_of N h h0 hn hb h1 h2, heightM_of N hc h h0 hn hb h1 h2, lifeK_of N hc h h0 hn hb h1 h2, gI, uI, cI_of, aI_of, sI_of, mnI_of, mxI_of, abI_of, dvI_of, rmI_of, bI_of, bV_of, rI, rV, rL, rP, rT, rZ_of, rC_of, if_pos, if_neg, if_true, if_false]
  unfold f_X11_around
  rw [aroundL_loop hc hn hb (by omega) (qP n s k).toNat N (qP n s k) _ 1 (by omega) (by omega) (by omega), f_X11_around_32]
  rw [aroundR_loop hc hn hb (by omega) (n - 1 - qP n s k).toNat N (qP n s k) _ (by omega) (by omega) (by omega)]
  simp (disch := omega) only [gI, uI, cI_of, aI_of, sI_of, mnI_of, mxI_of, abI_of, dvI_of, rmI_of, bI_of, bV_of, rI, rV, rL, rP, rT, rZ_of, rC_of, if_pos, if_neg, if_true, if_false]
  unfold wdQ
  congr 2
  omega
theorem genM_loop (h : MP0 S n s) (h0 : 1 ≤ n) (hn : n ≤ 48) (hb : CvB n s) : ∀ (d N : Nat) (m c : Int), 0 ≤ c → c < pkC n s → c < d → d < N → f_X11_generationOf_9 N m c S = some (m + gF (pkA n s) d c, S) := by
  have pf := (pk_facts h0 hn hb).1
  intro d
  induction d with
  | zero => intro N m c h1 h2 h3; omega
  | succ d ih =>
    intro N m c h1 h2 h3 hN
    obtain ⟨N, rfl⟩ : ∃ M, N = M + 1 := ⟨N - 1, by omega⟩
    have e16 := (h.2 c h1 h2).2.2.1
    have pa := pkA_in h0 hn hb c h1 h2
    rw [gF]
    by_cases g : pkA n s c = -1
    · rw [if_pos g, Int.add_zero, f_X11_generationOf_9]
      simp (disch := omega) only [e16, gI, uI, cI_of, aI_of, sI_of, mnI_of, mxI_of, abI_of, dvI_of, rmI_of, bI_of, bV_of, rI, rV, rL, rP, rT, rZ_of, rC_of, if_pos, if_neg, if_true, if_false]
    · rw [if_neg g, show m + (gF (pkA n s) d (pkA n s c) + 1) = m + 1 + gF (pkA n s) d (pkA n s c) by omega, ← ih N (m + 1) (pkA n s c) (by omega) (by omega) (by omega) (by omega), f_X11_generationOf_9]
      simp (disch := omega) only [e16, gI, uI, cI_of, aI_of, sI_of, mnI_of, mxI_of, abI_of, dvI_of, rmI_of, bI_of, bV_of, rI, rV, rL, rP, rT, rZ_of, rC_of, if_pos, if_neg, if_true, if_false]
theorem generationOf_of (N : Nat) (h : MPk S n s z) (h0 : 1 ≤ n) (hn : n ≤ 48) (hb : CvB n s) {k : Int} (h1 : 0 ≤ k) (h2 : k < pkC n s) (hN : 100 ≤ N) : f_X11_generationOf N S k = some (qG n s k, S) := by
  have f := pk_facts h0 hn hb
  have w := (pkW_ok h0 hn hb).range f.1.1 k h1 h2
  have e18 := (h.2.1 k h1 h2).1
  unfold f_X11_generationOf
  simp (disch := omega) only [e18, gI, uI, cI_of, aI_of, sI_of, mnI_of, mxI_of, abI_of, dvI_of, rmI_of, bI_of, bV_of, rI, rV, rL, rP, rT, rZ_of, rC_of, if_pos, if_neg, if_true, if_false]
  rw [genM_loop h.1 h0 hn hb 48 N 0 (pkW n s k) w.1 w.2 (by omega) (by omega), Int.zero_add]
  rfl
/-- the first with the greatest height of those for which c holds -/
def tlF (H : Int → Int) (c : Int → Prop) [DecidablePred c] (d : Nat) (i a : Int) : Int := fld (fun a i => if c i ∧ (a = -1 ∨ H a < H i) then i else a) d i a
theorem tallestOf_loop (hc : CvM S 8 n s z) (h : MPk S n s z) (h0 : 1 ≤ n) (hn : n ≤ 48) (hb : CvB n s) {g : Int} (hg : -1 ≤ g ∧ g ≤ 2147483647) (c : Int → Prop) [DecidablePred c] (hcc : ∀ k, 0 ≤ k → k < pkC n s → (c k ↔ (if g = -1 then 0 < k else qG n s k = g))) : ∀ (d N : Nat) (i a : Int), 0 ≤ i → i + d = pkC n s → d + 100 < N → (a = -1 ∨ (0 ≤ a ∧ a < i)) → f_X11_tallestOf_4 N g a i S = some (tlF (qH n s) c d i a, S) := by
  have pf := (pk_facts h0 hn hb).1
  have e0 := h.1.1
  intro d
  induction d with
  | zero =>
    intro N i a hi0 hi hN ha
    obtain ⟨N, rfl⟩ : ∃ M, N = M + 1 := ⟨N - 1, by omega⟩
    rw [f_X11_tallestOf_4]
    simp (disch := omega) only [e0, gI, uI, cI_of, aI_of, sI_of, mnI_of, mxI_of, abI_of, dvI_of, rmI_of, bI_of, bV_of, rI, rV, rL, rP, rT, rZ_of, rC_of, if_pos, if_neg, if_true, if_false]
    rfl
  | succ d ih =>
    intro N i a hi0 hi hN ha
    obtain ⟨N, rfl⟩ : ∃ M, N = M + 1 := ⟨N - 1, by omega⟩
    have ic : i < pkC n s := by omega
    have q := q_in h0 hn hb hi0 ic
    have eg := generationOf_of N h h0 hn hb hi0 ic (by omega)
    have ci := hcc i hi0 ic
    have eh := heightM_of N hc h h0 hn hb hi0 ic
    have e : tlF (qH n s) c (d + 1) i a = tlF (qH n s) c d (i + 1) (if c i ∧ (a = -1 ∨ qH n s a < qH n s i) then i else a) := rfl
    have y0 : ¬ c i → f_X11_tallestOf_43 (f_X11_tallestOf_4 N) N g a i 0 S = some (tlF (qH n s) c (d + 1) i a, S) := fun k => by
      rw [e, if_neg (fun y => k y.1), ← ih N (i + 1) a (by omega) (by omega) (by omega) (by omega), f_X11_tallestOf_43]
      simp (disch := omega) only [f_X11_tallestOf_72, f_X11_tallestOf_73, gI, uI, cI_of, aI_of, sI_of, mnI_of, mxI_of, abI_of, dvI_of, rmI_of, bI_of, bV_of, rI, rV, rL, rP, rT, rZ_of, rC_of, if_pos, if_neg, if_true, if_false]
    have y1 : c i → f_X11_tallestOf_43 (f_X11_tallestOf_4 N) N g a i 1 S = some (tlF (qH n s) c (d + 1) i a, S) := fun k => by
      rw [e]
      by_cases x : a = -1
      · rw [if_pos ⟨k, Or.inl x⟩, ← ih N (i + 1) i (by omega) (by omega) (by omega) (by omega), f_X11_tallestOf_43]
        simp (disch := omega) only [f_X11_tallestOf_68, f_X11_tallestOf_73, gI, uI, cI_of, aI_of, sI_of, mnI_of, mxI_of, abI_of, dvI_of, rmI_of, bI_of, bV_of, rI, rV, rL, rP, rT, rZ_of, rC_of, if_pos, if_neg, if_true, if_false]
      · have ea := heightM_of N hc h h0 hn hb (by omega : 0 ≤ a) (by omega : a < pkC n s)
        have qa := q_in h0 hn hb (by omega : 0 ≤ a) (by omega : a < pkC n s)
        by_cases y : qH n s i ≤ qH n s a
        · rw [if_neg (fun z => z.2.elim x (fun w => by omega)), ← ih N (i + 1) a (by omega) (by omega) (by omega) (by omega), f_X11_tallestOf_43]
          simp (disch := omega) only [eh, ea, f_X11_tallestOf_72, f_X11_tallestOf_73, gI, uI, cI_of, aI_of, sI_of, mnI_of, mxI_of, abI_of, dvI_of, rmI_of, bI_of, bV_of, rI, rV, rL, rP, rT, rZ_of, rC_of, if_pos, if_neg, if_true, if_false]
        · rw [if_pos ⟨k, Or.inr (by omega)⟩, ← ih N (i + 1) i (by omega) (by omega) (by omega) (by omega), f_X11_tallestOf_43]
          simp (disch := omega) only [eh, ea, f_X11_tallestOf_68, f_X11_tallestOf_73, gI, uI, cI_of, aI_of, sI_of, mnI_of, mxI_of, abI_of, dvI_of, rmI_of, bI_of, bV_of, rI, rV, rL, rP, rT, rZ_of, rC_of, if_pos, if_neg, if_true, if_false]
    by_cases g1 : g = -1
    · rw [if_pos g1] at ci
      by_cases g2 : i ≤ 0
      · rw [f_X11_tallestOf_4]
        simp (disch := omega) only [e0, gI, uI, cI_of, aI_of, sI_of, mnI_of, mxI_of, abI_of, dvI_of, rmI_of, bI_of, bV_of, rI, rV, rL, rP, rT, rZ_of, rC_of, if_pos, if_neg, if_true, if_false]
        exact y0 (fun k => by have := ci.mp k; omega)
      · rw [f_X11_tallestOf_4]
        simp (disch := omega) only [e0, gI, uI, cI_of, aI_of, sI_of, mnI_of, mxI_of, abI_of, dvI_of, rmI_of, bI_of, bV_of, rI, rV, rL, rP, rT, rZ_of, rC_of, if_pos, if_neg, if_true, if_false]
        exact y1 (ci.mpr (by omega))
    · rw [if_neg g1] at ci
      by_cases g2 : qG n s i = g
      · rw [f_X11_tallestOf_4]
        simp (disch := omega) only [e0, eg, gI, uI, cI_of, aI_of, sI_of, mnI_of, mxI_of, abI_of, dvI_of, rmI_of, bI_of, bV_of, rI, rV, rL, rP, rT, rZ_of, rC_of, if_pos, if_neg, if_true, if_false]
        exact y1 (ci.mpr g2)
      · rw [f_X11_tallestOf_4]
        simp (disch := omega) only [e0, eg, gI, uI, cI_of, aI_of, sI_of, mnI_of, mxI_of, abI_of, dvI_of, rmI_of, bI_of, bV_of, rI, rV, rL, rP, rT, rZ_of, rC_of, if_pos, if_neg, if_true, if_false]
        exact y0 (fun k => g2 (ci.mp k))
theorem added_loop (h : MPk S n s z) (h0 : 1 ≤ n) (hn : n ≤ 48) (hb : CvB n s) {w : Int} {f : Int → Int} (hf : ∀ (N : Nat) (k : Int), 400 ≤ N → 0 ≤ k → k < pkC n s → f_X11_ofPeak N S k w = some (f k, S)) : ∀ (d N : Nat) (i a : Int), 0 ≤ i → i + d = pkC n s → d + 400 < N → f_X11_added_4 N w a i S = some (sumF f d i a, S) := by
  have pf := (pk_facts h0 hn hb).1
  have e0 := h.1.1
  intro d
  induction d with
  | zero =>
    intro N i a hi0 hi hN
    obtain ⟨N, rfl⟩ : ∃ M, N = M + 1 := ⟨N - 1, by omega⟩
    rw [f_X11_added_4]
    simp (disch := omega) only [e0, gI, uI, cI_of, aI_of, sI_of, mnI_of, mxI_of, abI_of, dvI_of, rmI_of, bI_of, bV_of, rI, rV, rL, rP, rT, rZ_of, rC_of, if_pos, if_neg, if_true, if_false]
    rfl
  | succ d ih =>
    intro N i a hi0 hi hN
    obtain ⟨N, rfl⟩ : ∃ M, N = M + 1 := ⟨N - 1, by omega⟩
    have ef := hf N i (by omega) hi0 (by omega)
    show _ = some (sumF f d (i + 1) (a + f i), S)
    rw [f_X11_added_4, ← ih N (i + 1) (a + f i) (by omega) (by omega) (by omega)]
    simp (disch := omega) only [e0, ef, gI, uI, cI_of, aI_of, sI_of, mnI_of, mxI_of, abI_of, dvI_of, rmI_of, bI_of, bV_of, rI, rV, rL, rP, rT, rZ_of, rC_of, if_pos, if_neg, if_true, if_false]
theorem sumF_0 {f : Int → Int} : ∀ (d : Nat) (i a : Int), (∀ j, i ≤ j → j < i + d → f j = 0) → sumF f d i a = a
  | 0, i, a, h => rfl
  | d + 1, i, a, h => by
    show sumF f d (i + 1) (a + f i) = a
    rw [h i (by omega) (by omega), Int.add_zero]
    exact sumF_0 d (i + 1) a (fun j x y => h j (by omega) (by omega))
theorem sumF_cut {f g : Int → Int} {K C : Int} (h0 : 0 ≤ K) (h1 : K ≤ C) (hg : ∀ j, 0 ≤ j → j < C → g j = if 0 ≤ j ∧ j < K then f j else 0) : sumF g C.toNat 0 0 = sumF f K.toNat 0 0 := by
  have e := fld_add (g := fun a i => a + g i) K.toNat (C.toNat - K.toNat) 0 0
  rw [show K.toNat + (C.toNat - K.toNat) = C.toNat by omega] at e
  have e : sumF g C.toNat 0 0 = sumF g (C.toNat - K.toNat) (0 + (K.toNat : Int)) (sumF g K.toNat 0 0) := e
  rw [e, sumF_0 _ _ _ (fun j x y => by rw [hg j (by omega) (by omega), if_neg (by omega)])]
  exact fld_congr K.toNat 0 0 (fun b j x y => by show b + g j = b + f j; rw [hg j x (by omega), if_pos (by omega)])
theorem ofPeak_of (N : Nat) (hc : CvM S 8 n s z) (h : MPk S n s z) (h0 : 1 ≤ n) (hn : n ≤ 48) (hb : CvB n s) {k w : Int} (h1 : 0 ≤ k) (h2 : k < pkC n s) (hw : w = 0 ∨ w = 1 ∨ w = 2 ∨ w = 3) (hN : 400 ≤ N) : f_X11_ofPeak N S k w = some (if w = 1 then qL n s k else if 0 ≤ k ∧ k < pkK n s z then (if w = 0 then qP n s k else if w = 2 then qL n s k else arQ n s z k) else 0, S) := by
  have pf := (pk_facts h0 hn hb).1
  have ek := isKept_of N h h0 hn hb (by omega : -2147483648 ≤ k) (by omega : k ≤ 2147483647)
  have ep := placeM_of N h h0 hn hb h1 h2
  have el := lifeK_of N hc h h0 hn hb h1 h2
  have ea := areaOf_of N hc h h0 hn hb h1 h2 (by omega)
  unfold f_X11_ofPeak
  rcases hw with rfl | rfl | rfl | rfl
  · by_cases g : 0 ≤ k ∧ k < pkK n s z
    · rw [if_pos g] at ek
      simp (disch := omega) only [ek, ep, gI, uI, cI_of, aI_of, sI_of, mnI_of, mxI_of, abI_of, dvI_of, rmI_of, bI_of, bV_of, rI, rV, rL, rP, rT, rZ_of, rC_of, if_pos, if_neg, if_true, if_false]
    · rw [if_neg g] at ek
      simp (disch := omega) only [ek, gI, uI, cI_of, aI_of, sI_of, mnI_of, mxI_of, abI_of, dvI_of, rmI_of, bI_of, bV_of, rI, rV, rL, rP, rT, rZ_of, rC_of, if_pos, if_neg, if_true, if_false]
  · simp (disch := omega) only [el, gI, uI, cI_of, aI_of, sI_of, mnI_of, mxI_of, abI_of, dvI_of, rmI_of, bI_of, bV_of, rI, rV, rL, rP, rT, rZ_of, rC_of, if_pos, if_neg, if_true, if_false]
  · by_cases g : 0 ≤ k ∧ k < pkK n s z
    · rw [if_pos g] at ek
      simp (disch := omega) only [ek, el, gI, uI, cI_of, aI_of, sI_of, mnI_of, mxI_of, abI_of, dvI_of, rmI_of, bI_of, bV_of, rI, rV, rL, rP, rT, rZ_of, rC_of, if_pos, if_neg, if_true, if_false]
    · rw [if_neg g] at ek
      simp (disch := omega) only [ek, gI, uI, cI_of, aI_of, sI_of, mnI_of, mxI_of, abI_of, dvI_of, rmI_of, bI_of, bV_of, rI, rV, rL, rP, rT, rZ_of, rC_of, if_pos, if_neg, if_true, if_false]
  · by_cases g : 0 ≤ k ∧ k < pkK n s z
    · rw [if_pos g] at ek
      simp (disch := omega) only [ek, ea, gI, uI, cI_of, aI_of, sI_of, mnI_of, mxI_of, abI_of, dvI_of, rmI_of, bI_of, bV_of, rI, rV, rL, rP, rT, rZ_of, rC_of, if_pos, if_neg, if_true, if_false]
    · rw [if_neg g] at ek
      simp (disch := omega) only [ek, gI, uI, cI_of, aI_of, sI_of, mnI_of, mxI_of, abI_of, dvI_of, rmI_of, bI_of, bV_of, rI, rV, rL, rP, rT, rZ_of, rC_of, if_pos, if_neg, if_true, if_false]
theorem added_of (N : Nat) (hc : CvM S 8 n s z) (h : MPk S n s z) (h0 : 1 ≤ n) (hn : n ≤ 48) (hb : CvB n s) {w : Int} (hw : w = 0 ∨ w = 1 ∨ w = 2 ∨ w = 3) (hN : 500 ≤ N) : f_X11_added N S w = some (if w = 0 then sumF (qP n s) (pkK n s z).toNat 0 0 else if w = 1 then sumF (qL n s) (pkC n s).toNat 0 0 else if w = 2 then sumF (qL n s) (pkK n s z).toNat 0 0 else sumF (arQ n s z) (pkK n s z).toNat 0 0, S) := by
  have kk := pkK_in (z := z) h0 hn hb
  have pf := (pk_facts h0 hn hb).1
  unfold f_X11_added
  rw [added_loop h h0 hn hb (f := fun k => if w = 1 then qL n s k else if 0 ≤ k ∧ k < pkK n s z then (if w = 0 then qP n s k else if w = 2 then qL n s k else arQ n s z k) else 0) (fun N k a b c => ofPeak_of N hc h h0 hn hb b c hw a) (pkC n s).toNat N 0 0 (by omega) (by omega) (by omega)]
  rcases hw with rfl | rfl | rfl | rfl
  · rw [if_pos rfl, sumF_cut (f := qP n s) (by omega) kk.2 (fun j x y => by simp only [show ¬ ((0 : Int) = 1) by decide, if_false, if_true])]
  · rw [if_neg (by decide), if_pos rfl]; rfl
  · rw [if_neg (by decide), if_neg (by decide), if_pos rfl, sumF_cut (f := qL n s) (by omega) kk.2 (fun j x y => by simp only [show ¬ ((2 : Int) = 1) by decide, show ¬ ((2 : Int) = 0) by decide, if_false, if_true])]
  · rw [if_neg (by decide), if_neg (by decide), if_neg (by decide), sumF_cut (f := arQ n s z) (by omega) kk.2 (fun j x y => by simp only [show ¬ ((3 : Int) = 1) by decide, show ¬ ((3 : Int) = 0) by decide, show ¬ ((3 : Int) = 2) by decide, if_false])]
theorem lastGen_of (N : Nat) (h : MPk S n s z) (h0 : 1 ≤ n) (hn : n ≤ 48) (hb : CvB n s) (hN : 300 ≤ N) : f_X11_lastGeneration N S = some (maxF (qG n s) (pkC n s).toNat 0 0, S) := by
  have pf := (pk_facts h0 hn hb).1
  have e0 := h.1.1
  have loop : ∀ (d N : Nat) (i a : Int), 0 ≤ i → i + d = pkC n s → d + 100 < N → 0 ≤ a → a ≤ 99 → f_X11_lastGeneration_4 N a i S = some (maxF (qG n s) d i a, S) := by
    intro d
    induction d with
    | zero =>
      intro N i a hi0 hi hN ha1 ha2
      obtain ⟨N, rfl⟩ : ∃ M, N = M + 1 := ⟨N - 1, by omega⟩
      rw [f_X11_lastGeneration_4]
      simp (disch := omega) only [e0, gI, uI, cI_of, aI_of, sI_of, mnI_of, mxI_of, abI_of, dvI_of, rmI_of, bI_of, bV_of, rI, rV, rL, rP, rT, rZ_of, rC_of, if_pos, if_neg, if_true, if_false]
      rfl
    | succ d ih =>
      intro N i a hi0 hi hN ha1 ha2
      obtain ⟨N, rfl⟩ : ∃ M, N = M + 1 := ⟨N - 1, by omega⟩
      have ic : i < pkC n s := by omega
      have q := (q_in h0 hn hb hi0 ic).2.2.2.2.1
      have el := generationOf_of N h h0 hn hb hi0 ic (by omega)
      show _ = some (maxF (qG n s) d (i + 1) (max a (qG n s i)), S)
      rw [f_X11_lastGeneration_4, ← ih N (i + 1) (max a (qG n s i)) (by omega) (by omega) (by omega) (by omega) (by omega)]
      simp (disch := omega) only [e0, el, gI, uI, cI_of, aI_of, sI_of, mnI_of, mxI_of, abI_of, dvI_of, rmI_of, bI_of, bV_of, rI, rV, rL, rP, rT, rZ_of, rC_of, if_pos, if_neg, if_true, if_false]
  exact loop (pkC n s).toNat N 0 0 (by omega) (by omega) (by omega) (by omega) (by omega)
theorem widest_of (N : Nat) (hc : CvM S 8 n s z) (h : MPk S n s z) (h0 : 1 ≤ n) (hn : n ≤ 48) (hb : CvB n s) (hN : 300 ≤ N) : f_X11_widest N S = some (wdF (wdQ n s) ((pkK n s z).toNat - 1) 1 0, S) := by
  have kk := pkK_in (z := z) h0 hn hb
  have pf := (pk_facts h0 hn hb).1
  have e1 := h.2.2
  have loop : ∀ (d N : Nat) (i a : Int), 1 ≤ i → i + d = pkK n s z → d + 200 < N → 0 ≤ a → a < i → f_X11_widest_4 N a i S = some (wdF (wdQ n s) d i a, S) := by
    intro d
    induction d with
    | zero =>
      intro N i a hi0 hi hN ha1 ha2
      obtain ⟨N, rfl⟩ : ∃ M, N = M + 1 := ⟨N - 1, by omega⟩
      rw [f_X11_widest_4]
      simp (disch := omega) only [e1, gI, uI, cI_of, aI_of, sI_of, mnI_of, mxI_of, abI_of, dvI_of, rmI_of, bI_of, bV_of, rI, rV, rL, rP, rT, rZ_of, rC_of, if_pos, if_neg, if_true, if_false]
      rfl
    | succ d ih =>
      intro N i a hi0 hi hN ha1 ha2
      obtain ⟨N, rfl⟩ : ∃ M, N = M + 1 := ⟨N - 1, by omega⟩
      have ic : i < pkC n s := by omega
      have w1 := widthOf_of N hc h h0 hn hb (by omega : 0 ≤ i) ic (by omega)
      have w2 := widthOf_of N hc h h0 hn hb ha1 (by omega : a < pkC n s) (by omega)
      have b1 := wd_in h0 hn hb (by omega : 0 ≤ i) ic
      have b2 := wd_in h0 hn hb ha1 (by omega : a < pkC n s)
      show _ = some (wdF (wdQ n s) d (i + 1) (if wdQ n s a < wdQ n s i then i else a), S)
      by_cases g : wdQ n s i ≤ wdQ n s a
      · rw [if_neg (by omega), ← ih N (i + 1) a (by omega) (by omega) (by omega) (by omega) (by omega), f_X11_widest_4]
        simp (disch := omega) only [e1, w1, w2, f_X11_widest_30, gI, uI, cI_of, aI_of, sI_of, mnI_of, mxI_of, abI_of, dvI_of, rmI_of, bI_of, bV_of, rI, rV, rL, rP, rT, rZ_of, rC_of, if_pos, if_neg, if_true, if_false]
      · rw [if_pos (by omega), ← ih N (i + 1) i (by omega) (by omega) (by omega) (by omega) (by omega), f_X11_widest_4]
        simp (disch := omega) only [e1, w1, w2, f_X11_widest_30, gI, uI, cI_of, aI_of, sI_of, mnI_of, mxI_of, abI_of, dvI_of, rmI_of, bI_of, bV_of, rI, rV, rL, rP, rT, rZ_of, rC_of, if_pos, if_neg, if_true, if_false]
  exact loop ((pkK n s z).toNat - 1) N 1 0 (by omega) (by omega) (by omega) (by omega) (by omega)
end READSM
