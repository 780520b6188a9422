/-! the log: a ring of 100 rows (the class), 60 rows in the trace's own row (the reference) -/
def upE (e : Int → Int → Int) (T a b c : Int) : Int → Int → Int := fun k w => if k = T then (if w = 0 then a else if w = 1 then b else c) else e k w
/-- the reference's row g tells the log e of T acts -/
def LogG (g : Int → Int) (T : Int) (e : Int → Int → Int) : Prop := g 50 = min T 60 ∧ ∀ i w, 0 ≤ i → i < min T 60 → 0 ≤ w → w < 3 → g (51 + 3 * i + w) = e (T - min T 60 + i) w
/-- the class's log at l, a ring of 100 rows: T acts, those from F - 60 on can still be told -/
def RingC (S : S2) (l : Nat) (F T : Int) (e : Int → Int → Int) : Prop := ∃ c x : Int, S.1 l 0 = c ∧ S.1 l 1 = x ∧ (0 ≤ c ∧ c ≤ 100) ∧ (0 ≤ x ∧ x < 100) ∧ (c ≤ T ∧ (T ≤ c ∨ T - c ≤ F - 60)) ∧ ∀ k, F - 60 ≤ k → 0 ≤ k → k < T → S.1 (l + 1) ((x - (T - k)) % 100) = e k 0 ∧ S.1 (l + 2) ((x - (T - k)) % 100) = e k 1 ∧ S.1 (l + 3) ((x - (T - k)) % 100) = e k 2
abbrev logA (l : Nat) : Nat → Prop := fun j => l ≤ j ∧ j ≤ l + 3
theorem RingC.rows {S S' : S2} {l : Nat} {F T : Int} {e : Int → Int → Int} (h : RingC S l F T e) (q : ∀ j, l ≤ j → j ≤ l + 3 → S'.1 j = S.1 j) : RingC S' l F T e := by
  unfold RingC
  rw [q l (by omega) (by omega), q (l + 1) (by omega) (by omega), q (l + 2) (by omega) (by omega), q (l + 3) (by omega) (by omega)]; exact h
theorem RingC.kept {A : Nat → Prop} {S S' : S2} {l : Nat} {F T : Int} {e : Int → Int → Int} (h : RingC S l F T e) (f : Fr A S S') (hA : ∀ j, logA l j → ¬ A j) : RingC S' l F T e := h.rows (fun j a b => f.2 j (hA j ⟨a, b⟩))
theorem RingC.less {S : S2} {l : Nat} {F F' T : Int} {e : Int → Int → Int} (h : RingC S l F T e) (hF : F ≤ F') : RingC S l F' T e := by
  obtain ⟨c, x, h1, h2, h3, h4, h5, h6⟩ := h
  exact ⟨c, x, h1, h2, h3, h4, by omega, fun k a b d => h6 k (by omega) b d⟩
theorem LogG.congr {g g' : Int → Int} {T : Int} {e : Int → Int → Int} (h : LogG g T e) (hg : ∀ k, 50 ≤ k → k < 231 → g' k = g k) : LogG g' T e := ⟨by rw [hg 50 (by omega) (by omega)]; exact h.1, fun i w a b c d => by rw [hg _ (by omega) (by omega)]; exact h.2 i w a b c d⟩
theorem LogG.upE {g : Int → Int} {T T' a b c : Int} {e : Int → Int → Int} (h : LogG g T e) (hT : T ≤ T') (h0 : 0 ≤ T) : LogG g T (upE e T' a b c) := ⟨h.1, fun i w x y z v => by
  rw [h.2 i w x y z v]
  show _ = if T - min T 60 + i = T' then _ else e (T - min T 60 + i) w
  rw [if_neg (by omega)]⟩
section LOGC
variable {S : S2} {F F' T : Int} {e : Int → Int → Int}
theorem addC_of (N : Nat) (h : RingC S 27 F T e) (h0 : 0 ≤ T) (hT : T ≤ 1000000) (hF1 : F ≤ F') (hF2 : T < F' + 40) {a b c : Int} : ∃ S', f_X4_add N S 27 a b c = some S' ∧ RingC S' 27 F' (T + 1) (upE e T a b c) ∧ Fr (logA 27) S S' := by
  obtain ⟨u, x, e0, e1, hu, hx, ⟨hc1, hc2⟩, hk⟩ := h
  refine ⟨pI (pI (pI (pI (pI S 28 x a) 29 x b) 30 x c) 27 1 ((x + 1) % 100)) 27 0 (min (u + 1) 100), ?_, ⟨min (u + 1) 100, (x + 1) % 100, pI_eq, by rw [pI_idx (by decide), pI_eq], by omega, by omega, ⟨by omega, by omega⟩, fun k p y z => ?_⟩, ((((Fr.refl.pI (A := logA 27) (by decide)).pI (by decide)).pI (by decide)).pI (by decide)).pI (by decide)⟩
  · unfold f_X4_add
    simp (disch := omega) only [e0, e1, pI_cell, pI_idx, gI, uI, cI_of, aI_of, sI_of, mnI_of, mxI_of, abI_of, dvI_of, rmI_of, bI_of, bV_of, rI, rV, rL, rP, rT, rZ_of, rC_of, if_pos, if_neg, if_true, if_false]
  · show (pI (pI (pI (pI (pI S 28 x a) 29 x b) 30 x c) 27 1 ((x + 1) % 100)) 27 0 (min (u + 1) 100)).1 28 _ = upE e T a b c k 0 ∧ (pI (pI (pI (pI (pI S 28 x a) 29 x b) 30 x c) 27 1 ((x + 1) % 100)) 27 0 (min (u + 1) 100)).1 29 _ = upE e T a b c k 1 ∧ (pI (pI (pI (pI (pI S 28 x a) 29 x b) 30 x c) 27 1 ((x + 1) % 100)) 27 0 (min (u + 1) 100)).1 30 _ = upE e T a b c k 2
    simp (disch := omega) only [pI_cell]
    by_cases g : k = T
    · rw [show ((x + 1) % 100 - (T + 1 - k)) % 100 = x by omega, pI_eq, pI_eq, pI_eq]
      unfold upE
      exact ⟨by rw [if_pos g]; rfl, by rw [if_pos g]; rfl, by rw [if_pos g]; rfl⟩
    · rw [show ((x + 1) % 100 - (T + 1 - k)) % 100 = (x - (T - k)) % 100 by omega]
      have ne : (x - (T - k)) % 100 ≠ x := by omega
      rw [pI_idx ne, pI_idx ne, pI_idx ne]
      simp (disch := omega) only [pI_cell]
      unfold upE
      rw [if_neg g, if_neg g, if_neg g]
      exact hk k (by omega) y (by omega)
theorem dropC_of (N : Nat) (h : RingC S 27 F T e) (h0 : 1 ≤ T) (hF : F ≤ T) : ∃ S', f_X4_dropLatest N S 27 = some S' ∧ RingC S' 27 F (T - 1) e ∧ Fr (logA 27) S S' := by
  obtain ⟨u, x, e0, e1, hu, hx, ⟨hc1, hc2⟩, hk⟩ := h
  refine ⟨pI (pI S 27 1 ((x + 100 - 1) % 100)) 27 0 (u - 1), ?_, ⟨u - 1, (x + 100 - 1) % 100, pI_eq, by rw [pI_idx (by decide), pI_eq], by omega, by omega, ⟨by omega, by omega⟩, fun k p y z => ?_⟩, (Fr.refl.pI (A := logA 27) (by decide)).pI (by decide)⟩
  · unfold f_X4_dropLatest
    simp (disch := omega) only [e0, e1, pI_idx, gI, uI, cI_of, aI_of, sI_of, mnI_of, mxI_of, abI_of, dvI_of, rmI_of, bI_of, bV_of, rI, rV, rL, rP, rT, rZ_of, rC_of, if_pos, if_neg, if_true, if_false]
  · rw [pI_cell (by decide), pI_cell (by decide), pI_cell (by decide), pI_cell (by decide), pI_cell (by decide), pI_cell (by decide), show ((x + 100 - 1) % 100 - (T - 1 - k)) % 100 = (x - (T - k)) % 100 by omega]; exact hk k p y (by omega)
theorem logCopy_of (N : Nat) {l l' : Nat} (h : RingC S l F T e) (hll : (l = 27 ∧ l' = 50) ∨ (l = 50 ∧ l' = 27)) : ∃ S', f_X4_copyFrom N S l' l = some S' ∧ RingC S' l' F T e ∧ Fr (logA l') S S' := by
  obtain ⟨u, w, e0, e1, hu, hx, hc, hk⟩ := h
  refine ⟨pC (pC (pC (pI (pI S l' 0 u) l' 1 w) (l + 1) (l' + 1) 0 0 100) (l + 2) (l' + 2) 0 0 100) (l + 3) (l' + 3) 0 0 100, ?_, ⟨u, w, ?_, ?_, hu, hx, hc, fun k x y z => ?_⟩, ((((Fr.refl.pI (A := logA l') (by omega)).pI (by omega)).pC (by omega)).pC (by omega)).pC (by omega)⟩
  · unfold f_X4_copyFrom
    simp (disch := omega) only [e0, e1, pI_cell, cpI_of, gI, uI, cI_of, aI_of, sI_of, mnI_of, mxI_of, abI_of, dvI_of, rmI_of, bI_of, bV_of, rI, rV, rL, rP, rT, rZ_of, rC_of, if_pos, if_neg, if_true, if_false]
  · rw [pC_cell (by omega), pC_cell (by omega), pC_cell (by omega), pI_idx (by decide), pI_eq]
  · rw [pC_cell (by omega), pC_cell (by omega), pC_cell (by omega), pI_eq]
  · have q := hk k x y z
    generalize hm : (w - (T - k)) % 100 = m at q ⊢
    have b : 0 ≤ m ∧ m < 100 := by omega
    refine ⟨?_, ?_, ?_⟩
    · rw [pC_cell (by omega), pC_cell (by omega), pC_in (by omega) (by omega), show 0 + (m - 0) = m by omega, pI_cell (by omega), pI_cell (by omega)]; exact q.1
    · rw [pC_cell (by omega), pC_in (by omega) (by omega), show 0 + (m - 0) = m by omega, pC_cell (by omega), pI_cell (by omega), pI_cell (by omega)]; exact q.2.1
    · rw [pC_in (by omega) (by omega), show 0 + (m - 0) = m by omega, pC_cell (by omega), pC_cell (by omega), pI_cell (by omega), pI_cell (by omega)]; exact q.2.2
/-- what the log tells -/
def lgF (T : Int) (e : Int → Int → Int) (i w : Int) : Int := if (0 ≤ i ∧ i < min T 60) ∧ 0 ≤ w ∧ w < 3 then e (T - 1 - i) w else -1000000
theorem shownC_of (N : Nat) (h : RingC S 27 F T e) (h0 : 0 ≤ T) (hF : F ≤ T) : f_X4_shown N S 27 = some (min T 60, S) := by
  obtain ⟨u, x, e0, e1, hu, hx, ⟨hc1, hc2⟩, hk⟩ := h
  unfold f_X4_shown
  simp (disch := omega) only [e0, gI, uI, cI_of, aI_of, sI_of, mnI_of, mxI_of, abI_of, dvI_of, rmI_of, bI_of, bV_of, rI, rV, rL, rP, rT, rZ_of, rC_of, if_pos, if_neg, if_true, if_false]
  rw [show min u 60 = min T 60 by omega]
theorem tellC_of (N : Nat) (h : RingC S 27 F T e) (h0 : 0 ≤ F) (hF : F ≤ T) (hT : T ≤ 1000000) {i w : Int} (hi1 : -2147483648 ≤ i) (hi2 : i ≤ 2147483647) (hw1 : -2147483648 ≤ w) (hw2 : w ≤ 2147483647) : f_X4_tell N S 27 i w = some (lgF T e i w, S) := by
  have es := shownC_of N h (by omega) hF
  obtain ⟨u, x, e0, e1, hu, hx, ⟨hc1, hc2⟩, hk⟩ := h
  unfold f_X4_tell lgF
  by_cases g1 : i < 0
  · rw [if_neg (c := (0 ≤ i ∧ i < min T 60) ∧ 0 ≤ w ∧ w < 3) (by omega)]
    simp (disch := omega) only [gI, uI, cI_of, aI_of, sI_of, mnI_of, mxI_of, abI_of, dvI_of, rmI_of, bI_of, bV_of, rI, rV, rL, rP, rT, rZ_of, rC_of, if_pos, if_neg, if_true, if_false]
  · by_cases g2 : i < min T 60
    · have q := hk (T - 1 - i) (by omega) (by omega) (by omega)
      rw [show (x - (T - (T - 1 - i))) % 100 = (x + 100 - 1 - i) % 100 by omega] at q
      by_cases w0 : w = 0
      · rw [if_pos (c := (0 ≤ i ∧ i < min T 60) ∧ 0 ≤ w ∧ w < 3) (by omega), w0]
        simp (disch := omega) only [es, e1, q.1, gI, uI, cI_of, aI_of, sI_of, mnI_of, mxI_of, abI_of, dvI_of, rmI_of, bI_of, bV_of, rI, rV, rL, rP, rT, rZ_of, rC_of, if_pos, if_neg, if_true, if_false]
      by_cases w1 : w = 1
      · rw [if_pos (c := (0 ≤ i ∧ i < min T 60) ∧ 0 ≤ w ∧ w < 3) (by omega), w1]
        simp (disch := omega) only [es, e1, q.2.1, gI, uI, cI_of, aI_of, sI_of, mnI_of, mxI_of, abI_of, dvI_of, rmI_of, bI_of, bV_of, rI, rV, rL, rP, rT, rZ_of, rC_of, if_pos, if_neg, if_true, if_false]
      by_cases w2 : w = 2
      · rw [if_pos (c := (0 ≤ i ∧ i < min T 60) ∧ 0 ≤ w ∧ w < 3) (by omega), w2]
        simp (disch := omega) only [es, e1, q.2.2, gI, uI, cI_of, aI_of, sI_of, mnI_of, mxI_of, abI_of, dvI_of, rmI_of, bI_of, bV_of, rI, rV, rL, rP, rT, rZ_of, rC_of, if_pos, if_neg, if_true, if_false]
      rw [if_neg (c := (0 ≤ i ∧ i < min T 60) ∧ 0 ≤ w ∧ w < 3) (by omega)]
      simp (disch := omega) only [es, e1, gI, uI, cI_of, aI_of, sI_of, mnI_of, mxI_of, abI_of, dvI_of, rmI_of, bI_of, bV_of, rI, rV, rL, rP, rT, rZ_of, rC_of, if_pos, if_neg, if_true, if_false]
    · rw [if_neg (c := (0 ≤ i ∧ i < min T 60) ∧ 0 ≤ w ∧ w < 3) (by omega)]
      simp (disch := omega) only [es, gI, uI, cI_of, aI_of, sI_of, mnI_of, mxI_of, abI_of, dvI_of, rmI_of, bI_of, bV_of, rI, rV, rL, rP, rT, rZ_of, rC_of, if_pos, if_neg, if_true, if_false]
end LOGC
section LOGM
variable {S : S2} {n z nl r T : Int} {s pl : Int → Int} {e : Int → Int → Int}
theorem logM_of (N : Nat) (h : LogG (S.1 8) T e) (h0 : 0 ≤ T) {i w : Int} (hi1 : -2147483648 ≤ i) (hi2 : i ≤ 2147483647) (hw1 : -2147483648 ≤ w) (hw2 : w ≤ 2147483647) : f_X11_log N S i w = some (lgF T e i w, S) := by
  have e0 := h.1
  unfold f_X11_log lgF
  by_cases g1 : 0 ≤ i ∧ i < min T 60
  · by_cases g2 : 0 ≤ w ∧ w < 3
    · have q := h.2 (min T 60 - 1 - i) w (by omega) (by omega) g2.1 g2.2
      rw [show T - min T 60 + (min T 60 - 1 - i) = T - 1 - i by omega] at q
      rw [if_pos (c := (0 ≤ i ∧ i < min T 60) ∧ 0 ≤ w ∧ w < 3) ⟨g1, g2⟩]
      simp (disch := omega) only [e0, in_y N, q, gI, uI, cI_of, aI_of, sI_of, mnI_of, mxI_of, abI_of, dvI_of, rmI_of, bI_of, bV_of, rI, rV, rL, rP, rT, rZ_of, rC_of, if_pos, if_neg, if_true, if_false]
    · rw [if_neg (c := (0 ≤ i ∧ i < min T 60) ∧ 0 ≤ w ∧ w < 3) (by omega)]
      simp (disch := omega) only [e0, in_y N, in_n N, gI, uI, cI_of, aI_of, sI_of, mnI_of, mxI_of, abI_of, dvI_of, rmI_of, bI_of, bV_of, rI, rV, rL, rP, rT, rZ_of, rC_of, if_pos, if_neg, if_true, if_false]
  · rw [if_neg (c := (0 ≤ i ∧ i < min T 60) ∧ 0 ≤ w ∧ w < 3) (by omega)]
    simp (disch := omega) only [e0, in_n N, gI, uI, cI_of, aI_of, sI_of, mnI_of, mxI_of, abI_of, dvI_of, rmI_of, bI_of, bV_of, rI, rV, rL, rP, rT, rZ_of, rC_of, if_pos, if_neg, if_true, if_false]
theorem noteShift {a b : Int} : ∀ (d N : Nat) (x : Int) (S : S2), 3 ≤ x → x + d = 180 → d < N → ∃ S', (∀ K, f_X11_note_14 K N a b x S = K a b S') ∧ (∀ j, x - 3 ≤ j → j < 177 → S'.1 8 (51 + j) = S.1 8 (51 + j + 3)) ∧ (∀ k, k < 51 + x - 3 → S'.1 8 k = S.1 8 k) ∧ Fr is8 S S' := by
  intro d
  induction d with
  | zero =>
    intro N x S h3 hx hN
    obtain ⟨N, rfl⟩ : ∃ M, N = M + 1 := ⟨N - 1, by omega⟩
    refine ⟨S, fun K => ?_, fun j u v => by omega, fun _ _ => rfl, Fr.refl⟩
    rw [f_X11_note_14]
    simp (disch := omega) only [gI, uI, cI_of, aI_of, sI_of, mnI_of, mxI_of, abI_of, dvI_of, rmI_of, bI_of, bV_of, rI, rV, rL, rP, rT, rZ_of, rC_of, if_pos, if_neg, if_true, if_false]
  | succ d ih =>
    intro N x S h3 hx hN
    obtain ⟨N, rfl⟩ : ∃ M, N = M + 1 := ⟨N - 1, by omega⟩
    obtain ⟨S', f1, f2, f3, f4⟩ := ih N (x + 1) (pI S 8 (51 + x - 3) (S.1 8 (51 + x))) (by omega) (by omega) (by omega)
    refine ⟨S', fun K => ?_, fun j u v => ?_, fun k u => ?_, (Fr.refl.pI (A := is8) rfl).trans f4 (fun _ h => h) (fun _ h => h)⟩
    · rw [← f1 K, f_X11_note_14]
      simp (disch := omega) only [gI, uI, cI_of, aI_of, sI_of, mnI_of, mxI_of, abI_of, dvI_of, rmI_of, bI_of, bV_of, rI, rV, rL, rP, rT, rZ_of, rC_of, if_pos, if_neg, if_true, if_false]
    · by_cases g : j = x - 3
      · rw [f3 _ (by omega), g, show 51 + (x - 3) = 51 + x - 3 by omega, pI_eq, show 51 + x - 3 + 3 = 51 + x by omega]
      · rw [f2 j (by omega) v, pI_idx (by omega)]
    · rw [f3 k (by omega), pI_idx (by omega)]
abbrev noteMA : Nat → Prop := fun j => j = 8 ∨ (13 ≤ j ∧ j ≤ 21)
theorem note58_of (N : Nat) (hc : CvM S 8 n s z) (h0 : 1 ≤ n) (hn : n ≤ 48) (hb : CvB n s) (hz : 0 ≤ z ∧ z ≤ 999) (hB : LnB nl r pl) (hL : LnM S nl r pl) {m a b : Int} (hm : 0 ≤ m ∧ m < 60) (h50 : S.1 8 50 = m) (hN : 500 ≤ N) : ∃ S', f_X11_note_58 N a b S = some S' ∧ CvM S' 8 n s z ∧ S'.1 8 50 = m + 1 ∧ S'.1 8 (51 + 3 * m) = a ∧ S'.1 8 (51 + 3 * m + 1) = b ∧ S'.1 8 (51 + 3 * m + 2) = pkK n s z ∧ (∀ k, 50 < k → k < 51 + 3 * m → S'.1 8 k = S.1 8 k) ∧ FrM noteMA findsF S S' := by
  have fr1 : FrM is8 noF S (pI (pI S 8 (51 + 3 * m) a) 8 (51 + 3 * m + 1) b) := FrM.wI (i := 8) (FrM.wI (i := 8) FrM.refl rfl (by decide)) rfl (by decide)
  have hc1 : CvM (pI (pI S 8 (51 + 3 * m) a) 8 (51 + 3 * m + 1) b) 8 n s z := ⟨by rw [pI_idx (by omega), pI_idx (by omega)]; exact hc.1, by rw [pI_idx (by omega), pI_idx (by omega)]; exact hc.2.1, fun i x y => by rw [pI_idx (by omega), pI_idx (by omega)]; exact hc.2.2 i x y⟩
  obtain ⟨S2, e1, e2⟩ := keptNow_of N hc1 hb h0 hn hz hB (hL.kept fr1 (by decide) (fun h => h) (fun h => h)) hN
  have l2 := e2.log (by decide)
  have q50 : (pI S2 8 (51 + 3 * m + 2) (pkK n s z)).1 8 50 = m := by rw [pI_idx (by omega), l2, pI_idx (by omega), pI_idx (by omega)]; exact h50
  have hc2 := hc1.keptM e2 (by decide) (by decide)
  refine ⟨pI (pI S2 8 (51 + 3 * m + 2) (pkK n s z)) 8 50 (m + 1), ?_, ⟨by rw [pI_idx (by omega), pI_idx (by omega)]; exact hc2.1, by rw [pI_idx (by omega), pI_idx (by omega)]; exact hc2.2.1, fun i x y => by rw [pI_idx (by omega), pI_idx (by omega)]; exact hc2.2.2 i x y⟩, pI_eq, ?_, ?_, ?_, fun k x y => ?_, ?_⟩
  · unfold f_X11_note_58
    simp (disch := omega) only [h50, e1, q50, gI, uI, cI_of, aI_of, sI_of, mnI_of, mxI_of, abI_of, dvI_of, rmI_of, bI_of, bV_of, rI, rV, rL, rP, rT, rZ_of, rC_of, if_pos, if_neg, if_true, if_false]
  · rw [pI_idx (by omega), pI_idx (by omega), l2, pI_idx (by omega), pI_eq]
  · rw [pI_idx (by omega), pI_idx (by omega), l2, pI_eq]
  · rw [pI_idx (by omega), pI_eq]
  · rw [pI_idx (by omega), pI_idx (by omega), l2, pI_idx (by omega), pI_idx (by omega)]
  · exact ((fr1.trans e2 (fun _ h => Or.inl h) (fun _ h => Or.inr h) (fun _ h => h.elim) (fun _ h => h) (C := noteMA) (K := findsF)).wI (Or.inl rfl) (by decide)).wI (Or.inl rfl) (by decide)
theorem note_of (N : Nat) (hc : CvM S 8 n s z) (h0 : 1 ≤ n) (hn : n ≤ 48) (hb : CvB n s) (hz : 0 ≤ z ∧ z ≤ 999) (hB : LnB nl r pl) (hL : LnM S nl r pl) (hg : LogG (S.1 8) T e) (hT : 0 ≤ T) {a b : Int} (hN : 500 ≤ N) : ∃ S', f_X11_note N S a b = some S' ∧ CvM S' 8 n s z ∧ LogG (S'.1 8) (T + 1) (upE e T a b (pkK n s z)) ∧ FrM noteMA findsF S S' := by
  have g0 := hg.1
  have fin : ∀ (S' : S2) (m : Int), m = min (T + 1) 60 - 1 → S'.1 8 50 = m + 1 → S'.1 8 (51 + 3 * m) = a → S'.1 8 (51 + 3 * m + 1) = b → S'.1 8 (51 + 3 * m + 2) = pkK n s z → (∀ i w, 0 ≤ i → i < m → 0 ≤ w → w < 3 → S'.1 8 (51 + 3 * i + w) = e (T + 1 - min (T + 1) 60 + i) w) → LogG (S'.1 8) (T + 1) (upE e T a b (pkK n s z)) := fun S' m em p50 pa pb pc ph => by
    refine ⟨by rw [p50, em]; omega, fun i w x y u v => ?_⟩
    by_cases g : i = m
    · show _ = if T + 1 - min (T + 1) 60 + i = T then (if w = 0 then a else if w = 1 then b else pkK n s z) else _
      rw [if_pos (by omega), g]
      by_cases w0 : w = 0
      · rw [if_pos w0, w0, Int.add_zero]; exact pa
      · rw [if_neg w0]
        by_cases w1 : w = 1
        · rw [if_pos w1, w1]; exact pb
        · rw [if_neg w1, show w = 2 by omega]; exact pc
    · show _ = if T + 1 - min (T + 1) 60 + i = T then _ else e (T + 1 - min (T + 1) 60 + i) w
      rw [if_neg (by omega)]
      exact ph i w x (by omega) u v
  by_cases full : T < 60
  · obtain ⟨S', e1, e2, e3, e4, e5, e6, e7, e8⟩ := note58_of N hc h0 hn hb hz hB hL (m := T) (a := a) (b := b) (by omega) (by rw [g0]; omega) hN
    refine ⟨S', ?_, e2, fin S' T (by omega) e3 e4 e5 e6 (fun i w x y u v => ?_), e8⟩
    · unfold f_X11_note
      have : S.1 8 50 = T := by rw [g0]; omega
      simp (disch := omega) only [this, gI, uI, cI_of, aI_of, sI_of, mnI_of, mxI_of, abI_of, dvI_of, rmI_of, bI_of, bV_of, rI, rV, rL, rP, rT, rZ_of, rC_of, if_pos, if_neg, if_true, if_false]
      exact e1
    · rw [e7 _ (by omega) (by omega), hg.2 i w x (by omega) u v]
      rw [show T - min T 60 + i = T + 1 - min (T + 1) 60 + i by omega]
  · obtain ⟨S1, a1, a2, a3, a4⟩ := noteShift (a := a) (b := b) 177 N 3 S (by omega) (by omega) (by omega)
    have s50 : S1.1 8 50 = 60 := by rw [a3 50 (by omega), g0]; omega
    have fr1 : FrM is8 noF S (pI S1 8 50 59) := (FrM.of a4 (by decide)).wI rfl (by decide)
    have hc1 : CvM (pI S1 8 50 59) 8 n s z := ⟨by rw [pI_idx (by omega), a3 _ (by omega)]; exact hc.1, by rw [pI_idx (by omega), a3 _ (by omega)]; exact hc.2.1, fun i x y => by rw [pI_idx (by omega), a3 _ (by omega)]; exact hc.2.2 i x y⟩
    obtain ⟨S', e1, e2, e3, e4, e5, e6, e7, e8⟩ := note58_of N hc1 h0 hn hb hz hB (hL.kept fr1 (by decide) (fun h => h) (fun h => h)) (m := 59) (a := a) (b := b) (by omega) pI_eq hN
    refine ⟨S', ?_, e2, fin S' 59 (by omega) e3 e4 e5 e6 (fun i w x y u v => ?_), fr1.trans e8 (fun _ h => Or.inl h) (fun _ h => h) (fun _ h => h.elim) (fun _ h => h)⟩
    · unfold f_X11_note
      have : S.1 8 50 = 60 := by rw [g0]; omega
      simp (disch := omega) only [this, gI, uI, cI_of, aI_of, sI_of, mnI_of, mxI_of, abI_of, dvI_of, rmI_of, bI_of, bV_of, rI, rV, rL, rP, rT, rZ_of, rC_of, if_pos, if_neg, if_true, if_false]
      rw [a1, f_X11_note_47]
      simp (disch := omega) only [s50, gI, uI, cI_of, aI_of, sI_of, mnI_of, mxI_of, abI_of, dvI_of, rmI_of, bI_of, bV_of, rI, rV, rL, rP, rT, rZ_of, rC_of, if_pos, if_neg, if_true, if_false]
      exact e1
    · rw [e7 _ (by omega) (by omega), pI_idx (by omega), show 51 + 3 * i + w = 51 + (3 * i + w) by omega, a2 (3 * i + w) (by omega) (by omega), show 51 + (3 * i + w) + 3 = 51 + 3 * (i + 1) + w by omega, hg.2 (i + 1) w (by omega) (by omega) u v]
      rw [show T - min T 60 + (i + 1) = T + 1 - min (T + 1) 60 + i by omega]
end LOGM
