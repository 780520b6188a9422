/-! the class's curve: what acts do to it -/
section CURVEACTS
variable {S : S2} {c : Nat} {n z : Int} {s : Int → Int}
theorem CvC.congr {t : Int → Int} (h : CvC S c n s z) (e : ∀ j, 0 ≤ j → j < n → s j = t j) : CvC S c n t z := ⟨h.1, h.2.1, fun j a b => (h.2.2 j a b).trans (e j a b)⟩
theorem CvC.put (h : CvC S c n s z) (k v : Int) : CvC (pI S (c + 1) k v) c n (fun j => if j = k then v else s j) z := by
  refine ⟨?_, ?_, fun j a b => ?_⟩
  · rw [pI_cell (by omega)]; exact h.1
  · rw [pI_cell (by omega)]; exact h.2.1
  · rw [pI_at]
    show _ = if j = k then v else s j
    by_cases q : j = k
    · rw [if_pos q, if_pos q]
    · rw [if_neg q, if_neg q]; exact h.2.2 j a b
theorem CvM.congr {t : Int → Int} (h : CvM S c n s z) (e : ∀ j, 0 ≤ j → j < n → s j = t j) : CvM S c n t z := ⟨h.1, h.2.1, fun j a b => (h.2.2 j a b).trans (e j a b)⟩
theorem CvM.put (h : CvM S c n s z) {k : Int} (v : Int) (h1 : k < 48) : CvM (pI S c k v) c n (fun j => if j = k then v else s j) z := by
  refine ⟨?_, ?_, fun j a b => ?_⟩
  · rw [pI_idx (by omega)]; exact h.1
  · rw [pI_idx (by omega)]; exact h.2.1
  · rw [pI_at]
    show _ = if j = k then v else s j
    by_cases q : j = k
    · rw [if_pos q, if_pos q]
    · rw [if_neg q, if_neg q]; exact h.2.2 j a b
abbrev rowOf (c : Nat) : Nat → Prop := fun j => j = c + 1
/-- cap -/
def capS (s : Int → Int) (a : Int) : Int → Int := fun i => min (s i) a
def cntF (p : Int → Prop) [DecidablePred p] (d : Nat) (i a : Int) : Int := fld (fun a i => if p i then a + 1 else a) d i a
theorem cap_loop {a : Int} (hb : CvB n s) (hn : n ≤ 48) (h1 : -2147483648 ≤ a) (h2 : a ≤ 2147483647) : ∀ (d N : Nat) (i r : Int) (S : S2), 0 ≤ i → i + d = n → d < N → CvC S c n (fun j => if j < i then capS s a j else s j) z → ∃ S', f_X0_cap_4 c N a r i S = some (cntF (fun i => a < s i) d i r, S') ∧ CvC S' c n (capS s a) z ∧ Fr (rowOf c) S S' := by
  intro d
  induction d with
  | zero =>
    intro N i r S h0 hi hN hc
    obtain ⟨N, rfl⟩ : ∃ M, N = M + 1 := ⟨N - 1, by omega⟩
    have hcn := hc.1
    refine ⟨S, ?_, hc.congr (fun j a b => if_pos (by omega)), Fr.refl⟩
    rw [f_X0_cap_4]
    simp (disch := omega) only [gI, uI, cI_of, aI_of, sI_of, mnI_of, mxI_of, abI_of, dvI_of, rmI_of, bI_of, bV_of, rI, rV, rL, rP, rT, rZ_of, rC_of, if_pos, if_neg]
    rfl
  | succ d ih =>
    intro N i r S h0 hi hN hc
    obtain ⟨N, rfl⟩ : ∃ M, N = M + 1 := ⟨N - 1, by omega⟩
    have hcn := hc.1
    have e := hc.2.2 i h0 (by omega)
    have hb1 := hb i h0 (by omega)
    dsimp only at e
    rw [if_neg (by omega)] at e
    rw [f_X0_cap_4]
    show ∃ S', _ = some (cntF (fun i => a < s i) d (i + 1) (if a < s i then r + 1 else r), S') ∧ _
    by_cases h : a < s i
    · obtain ⟨S', e1, e2, e3⟩ := ih N (i + 1) (r + 1) (pI S (c + 1) i a) (by omega) (by omega) (by omega) ((hc.put i a).congr (fun j p q => by
        by_cases hj : j = i
        · rw [if_pos hj, if_pos (by omega), hj]; show a = min (s i) a; omega
        · rw [if_neg hj]
          by_cases hk : j < i
          · rw [if_pos hk, if_pos (by omega)]
          · rw [if_neg hk, if_neg (by omega)]))
      refine ⟨S', ?_, e2, (Fr.refl.pI (A := rowOf c) rfl).trans e3 (fun _ h => h) (fun _ h => h)⟩
      simp (disch := omega) only [f_X0_cap_32, gI, uI, cI_of, aI_of, sI_of, mnI_of, mxI_of, abI_of, dvI_of, rmI_of, bI_of, bV_of, rI, rV, rL, rP, rT, rZ_of, rC_of, if_pos, if_neg]
      exact e1
    · obtain ⟨S', e1, e2, e3⟩ := ih N (i + 1) r S (by omega) (by omega) (by omega) (hc.congr (fun j p q => by
        by_cases hk : j < i
        · rw [if_pos hk, if_pos (by omega)]
        · rw [if_neg hk]
          by_cases hj : j < i + 1
          · rw [if_pos hj, show j = i by omega]; show s i = min (s i) a; omega
          · rw [if_neg hj]))
      refine ⟨S', ?_, e2, e3⟩
      simp (disch := omega) only [f_X0_cap_32, gI, uI, cI_of, aI_of, sI_of, mnI_of, mxI_of, abI_of, dvI_of, rmI_of, bI_of, bV_of, rI, rV, rL, rP, rT, rZ_of, rC_of, if_pos, if_neg]
      exact e1
theorem cap_of (N : Nat) (hc : CvC S c n s z) (hb : CvB n s) (h0 : 0 ≤ n) (hn : n ≤ 48) {a : Int} (h1 : -2147483648 ≤ a) (h2 : a ≤ 2147483647) (hN : 100 ≤ N) : ∃ S', f_X0_cap N S c a = some (cntF (fun i => a < s i) n.toNat 0 0, S') ∧ CvC S' c n (capS s a) z ∧ Fr (rowOf c) S S' :=
  cap_loop hb hn h1 h2 n.toNat N 0 0 S (by omega) (by omega) (by omega) (hc.congr (fun j a b => by rw [if_neg (by omega)]))
/-- a loop that lays t i at each place i -/
theorem lay_next {t : Int → Int} {i : Int} {S : S2} (hc : CvC S c n (fun j => if j < i then t j else s j) z) : CvC (pI S (c + 1) i (t i)) c n (fun j => if j < i + 1 then t j else s j) z := (hc.put i (t i)).congr (fun j p q => by
  by_cases hj : j = i
  · rw [if_pos hj, if_pos (by omega), hj]
  · rw [if_neg hj]
    by_cases hk : j < i
    · rw [if_pos hk, if_pos (by omega)]
    · rw [if_neg hk, if_neg (by omega)])
def liftS (s : Int → Int) (a : Int) : Int → Int := fun i => max 0 (min 999 (s i + a))
theorem liftS_b {a : Int} : CvB n (liftS s a) := fun i _ _ => by unfold liftS; omega
theorem raise_loop {a : Int} (hb : CvB n s) (hn : n ≤ 48) (h1 : -2000 ≤ a) (h2 : a ≤ 2000) : ∀ (d N : Nat) (i : Int) (S : S2), 0 ≤ i → i + d = n → d < N → CvC S c n (fun j => if j < i then liftS s a j else s j) z → ∃ S', (∀ k, f_X0_raise_2 c k N a i S = k S') ∧ CvC S' c n (liftS s a) z ∧ Fr (rowOf c) S S' := by
  intro d
  induction d with
  | zero =>
    intro N i S h0 hi hN hc
    obtain ⟨N, rfl⟩ : ∃ M, N = M + 1 := ⟨N - 1, by omega⟩
    have hcn := hc.1
    refine ⟨S, fun k => ?_, hc.congr (fun j a b => if_pos (by omega)), Fr.refl⟩
    rw [f_X0_raise_2]
    simp (disch := omega) only [gI, uI, cI_of, aI_of, sI_of, mnI_of, mxI_of, abI_of, dvI_of, rmI_of, bI_of, bV_of, rI, rV, rL, rP, rT, rZ_of, rC_of, if_pos, if_neg]
  | succ d ih =>
    intro N i S h0 hi hN hc
    obtain ⟨N, rfl⟩ : ∃ M, N = M + 1 := ⟨N - 1, by omega⟩
    have hcn := hc.1
    have e := hc.2.2 i h0 (by omega)
    have hb1 := hb i h0 (by omega)
    dsimp only at e
    rw [if_neg (by omega)] at e
    obtain ⟨S', e1, e2, e3⟩ := ih N (i + 1) (pI S (c + 1) i (liftS s a i)) (by omega) (by omega) (by omega) (lay_next hc)
    refine ⟨S', fun k => ?_, e2, (Fr.refl.pI (A := rowOf c) rfl).trans e3 (fun _ h => h) (fun _ h => h)⟩
    rw [f_X0_raise_2]
    simp (disch := omega) only [gI, uI, cI_of, aI_of, sI_of, mnI_of, mxI_of, abI_of, dvI_of, rmI_of, bI_of, bV_of, rI, rV, rL, rP, rT, rZ_of, rC_of, if_pos, if_neg]
    rw [e]
    exact e1 k
theorem raise_of (N : Nat) (hc : CvC S c n s z) (hb : CvB n s) (h0 : 0 ≤ n) (hn : n ≤ 48) {a : Int} (h1 : -2000 ≤ a) (h2 : a ≤ 2000) (hN : 100 ≤ N) : ∃ S', f_X0_raise N S c a = some (minF (liftS s a) n.toNat 0 999, S') ∧ CvC S' c n (liftS s a) z ∧ Fr (rowOf c) S S' := by
  obtain ⟨S', e1, e2, e3⟩ := raise_loop (c := c) (z := z) hb hn h1 h2 n.toNat N 0 S (by omega) (by omega) (by omega) (hc.congr (fun j a b => by rw [if_neg (by omega)]))
  refine ⟨S', ?_, e2, e3⟩
  unfold f_X0_raise
  rw [e1]
  simp (disch := omega) only [f_X0_raise_40, leastSample_of N e2 liftS_b h0 hn hN, gI, uI, cI_of, aI_of, sI_of, mnI_of, mxI_of, abI_of, dvI_of, rmI_of, bI_of, bV_of, rI, rV, rL, rP, rT, rZ_of, rC_of, if_pos, if_neg]
def scaleS (s : Int → Int) (a b : Int) : Int → Int := fun i => min 999 (s i * a / b)
theorem mul_bd {x a : Int} (h1 : 0 ≤ x) (h2 : x ≤ 999) (h3 : 0 ≤ a) (h4 : a ≤ 99) : 0 ≤ x * a ∧ x * a ≤ 98901 := by
  have g1 : 0 ≤ x * a := Int.mul_nonneg h1 h3
  have g2 : x * a ≤ 999 * a := Int.mul_le_mul_of_nonneg_right h2 h3
  omega
theorem scaleS_b {a b : Int} (hb : CvB n s) (h1 : 0 ≤ a) (h2 : a ≤ 99) (h3 : 1 ≤ b) : CvB n (scaleS s a b) := fun i p q => by
  have g := hb i p q
  have g2 := mul_bd g.1 g.2 h1 h2
  have g3 : 0 ≤ s i * a / b := Int.ediv_nonneg g2.1 (by omega)
  unfold scaleS; omega
theorem stretch_loop {a b : Int} (hb : CvB n s) (hn : n ≤ 48) (h1 : 0 ≤ a) (h2 : a ≤ 99) (h3 : 1 ≤ b) (h4 : b ≤ 99) : ∀ (d N : Nat) (i : Int) (S : S2), 0 ≤ i → i + d = n → d < N → CvC S c n (fun j => if j < i then scaleS s a b j else s j) z → ∃ S', (∀ k, f_X0_stretch_2 c k N a b i S = k S') ∧ CvC S' c n (scaleS s a b) z ∧ Fr (rowOf c) S S' := by
  intro d
  induction d with
  | zero =>
    intro N i S h0 hi hN hc
    obtain ⟨N, rfl⟩ : ∃ M, N = M + 1 := ⟨N - 1, by omega⟩
    have hcn := hc.1
    refine ⟨S, fun k => ?_, hc.congr (fun j a b => if_pos (by omega)), Fr.refl⟩
    rw [f_X0_stretch_2]
    simp (disch := omega) only [gI, uI, cI_of, aI_of, sI_of, mnI_of, mxI_of, abI_of, dvI_of, rmI_of, bI_of, bV_of, rI, rV, rL, rP, rT, rZ_of, rC_of, if_pos, if_neg]
  | succ d ih =>
    intro N i S h0 hi hN hc
    obtain ⟨N, rfl⟩ : ∃ M, N = M + 1 := ⟨N - 1, by omega⟩
    have hcn := hc.1
    have e := hc.2.2 i h0 (by omega)
    have hb1 := hb i h0 (by omega)
    dsimp only at e
    rw [if_neg (by omega)] at e
    have g2 := mul_bd hb1.1 hb1.2 h1 h2
    have g3 : 0 ≤ s i * a / b := Int.ediv_nonneg g2.1 (by omega)
    have g4 : s i * a / b ≤ s i * a := Int.ediv_le_self _ g2.1
    obtain ⟨S', e1, e2, e3⟩ := ih N (i + 1) (pI S (c + 1) i (scaleS s a b i)) (by omega) (by omega) (by omega) (lay_next hc)
    refine ⟨S', fun k => ?_, e2, (Fr.refl.pI (A := rowOf c) rfl).trans e3 (fun _ h => h) (fun _ h => h)⟩
    rw [f_X0_stretch_2]
    simp (disch := omega) only [e, gI, uI, cI_of, aI_of, sI_of, mnI_of, mxI_of, abI_of, dvI_of, rmI_of, bI_of, bV_of, rI, rV, rL, rP, rT, rZ_of, rC_of, if_pos, if_neg]
    exact e1 k
theorem stretch_of (N : Nat) (hc : CvC S c n s z) (hb : CvB n s) (h0 : 0 ≤ n) (hn : n ≤ 48) {a b : Int} (h1 : 0 ≤ a) (h2 : a ≤ 99) (h3 : 1 ≤ b) (h4 : b ≤ 99) (hN : 100 ≤ N) : ∃ S', f_X0_stretch N S c a b = some (maxF (scaleS s a b) n.toNat 0 0, S') ∧ CvC S' c n (scaleS s a b) z ∧ Fr (rowOf c) S S' := by
  obtain ⟨S', e1, e2, e3⟩ := stretch_loop (c := c) (z := z) hb hn h1 h2 h3 h4 n.toNat N 0 S (by omega) (by omega) (by omega) (hc.congr (fun j a b => by rw [if_neg (by omega)]))
  refine ⟨S', ?_, e2, e3⟩
  unfold f_X0_stretch
  rw [e1]
  simp (disch := omega) only [f_X0_stretch_42, greatestSample_of N e2 (scaleS_b hb h1 h2 h3) h0 hn hN, gI, uI, cI_of, aI_of, sI_of, mnI_of, mxI_of, abI_of, dvI_of, rmI_of, bI_of, bV_of, rI, rV, rL, rP, rT, rZ_of, rC_of, if_pos, if_neg]
def setS (s : Int → Int) (p v : Int) : Int → Int := fun i => if i = p then v else s i
theorem put_of (N : Nat) (hc : CvC S c n s z) (hn : n ≤ 48) {p v : Int} (h1 : 0 ≤ p) (h2 : p < n) : f_X0_put N S c p v = some (s p, pI S (c + 1) p v) := by
  unfold f_X0_put
  have e := hc.2.2 p h1 h2
  simp (disch := omega) only [has_y N hc hn, e, gI, uI, cI_of, aI_of, sI_of, mnI_of, mxI_of, abI_of, dvI_of, rmI_of, bI_of, bV_of, rI, rV, rL, rP, rT, rZ_of, rC_of, if_pos, if_neg]
theorem hush_of (N : Nat) (hc : CvC S c n s z) {v : Int} : f_X0_hush N S c v = some (z, pI S c 2 v) := by
  unfold f_X0_hush
  have e := hc.2.1
  simp (disch := omega) only [e, gI, uI, cI_of, aI_of, sI_of, mnI_of, mxI_of, abI_of, dvI_of, rmI_of, bI_of, bV_of, rI, rV, rL, rP, rT, rZ_of, rC_of, if_pos, if_neg]
theorem CvC.hush (hc : CvC S c n s z) (v : Int) : CvC (pI S c 2 v) c n s v := ⟨by rw [pI_idx (by omega)]; exact hc.1, pI_eq, fun j a b => by rw [pI_cell (by omega)]; exact hc.2.2 j a b⟩
def cutS (s : Int → Int) (p : Int) : Int → Int := fun i => s (p + i)
theorem keepOnly_loop {p k m : Int} (hn : n ≤ 48) (h1 : 0 ≤ p) (h2 : 0 ≤ k) (h3 : p + k ≤ n) : ∀ (d N : Nat) (i : Int) (S : S2), 0 ≤ i → i + d = k → d < N → CvC S c n (fun j => if j < i then s (p + j) else s j) z → ∃ S' t, (∀ K, f_X0_keepOnly_10 c K N p k m i S = K k m S') ∧ CvC S' c n t z ∧ (∀ j, 0 ≤ j → j < k → t j = s (p + j)) ∧ Fr (rowOf c) S S' := by
  intro d
  induction d with
  | zero =>
    intro N i S h0 hi hN hc
    obtain ⟨N, rfl⟩ : ∃ M, N = M + 1 := ⟨N - 1, by omega⟩
    refine ⟨S, _, fun K => ?_, hc, fun j a b => if_pos (by omega), Fr.refl⟩
    rw [f_X0_keepOnly_10]
    simp (disch := omega) only [gI, uI, cI_of, aI_of, sI_of, mnI_of, mxI_of, abI_of, dvI_of, rmI_of, bI_of, bV_of, rI, rV, rL, rP, rT, rZ_of, rC_of, if_pos, if_neg]
  | succ d ih =>
    intro N i S h0 hi hN hc
    obtain ⟨N, rfl⟩ : ∃ M, N = M + 1 := ⟨N - 1, by omega⟩
    have hcn := hc.1
    have e := hc.2.2 (p + i) (by omega) (by omega)
    dsimp only at e
    rw [if_neg (by omega)] at e
    obtain ⟨S', t, e1, e2, e3, e4⟩ := ih N (i + 1) (pI S (c + 1) i (s (p + i))) (by omega) (by omega) (by omega) (lay_next (t := fun j => s (p + j)) hc)
    refine ⟨S', t, fun K => ?_, e2, e3, (Fr.refl.pI (A := rowOf c) rfl).trans e4 (fun _ h => h) (fun _ h => h)⟩
    rw [f_X0_keepOnly_10]
    simp (disch := omega) only [has_y N hc hn, e, gI, uI, cI_of, aI_of, sI_of, mnI_of, mxI_of, abI_of, dvI_of, rmI_of, bI_of, bV_of, rI, rV, rL, rP, rT, rZ_of, rC_of, if_pos, if_neg]
    exact e1 K
abbrev objOf (c : Nat) : Nat → Prop := fun j => j = c ∨ j = c + 1
theorem keepOnly_of (N : Nat) (hc : CvC S c n s z) (hn : n ≤ 48) {p k : Int} (h1 : 0 ≤ p) (h2 : 1 ≤ k) (h3 : p + k ≤ n) (hN : 100 ≤ N) : ∃ S', f_X0_keepOnly N S c p k = some (n - k, S') ∧ CvC S' c k (cutS s p) z ∧ Fr (objOf c) S S' := by
  obtain ⟨S', t, e1, e2, e3, e4⟩ := keepOnly_loop (c := c) (z := z) (m := n - k) hn h1 (by omega) h3 k.toNat N 0 S (by omega) (by omega) (by omega) (hc.congr (fun j a b => by rw [if_neg (by omega)]))
  have hcn := hc.1
  refine ⟨pI S' c 1 k, ?_, ⟨pI_eq, by rw [pI_idx (by omega)]; exact e2.2.1, fun j a b => by rw [pI_cell (by omega), e2.2.2 j a (by omega), e3 j a b]; rfl⟩, (e4.mono (fun _ h => Or.inr h)).pI (Or.inl rfl)⟩
  unfold f_X0_keepOnly
  simp (disch := omega) only [hcn, gI, uI, cI_of, aI_of, sI_of, mnI_of, mxI_of, abI_of, dvI_of, rmI_of, bI_of, bV_of, rI, rV, rL, rP, rT, rZ_of, rC_of, if_pos, if_neg]
  rw [e1]
  simp (disch := omega) only [f_X0_keepOnly_49, gI, uI, cI_of, aI_of, sI_of, mnI_of, mxI_of, abI_of, dvI_of, rmI_of, bI_of, bV_of, rI, rV, rL, rP, rT, rZ_of, rC_of, if_pos, if_neg]
def turnS (s : Int → Int) (n : Int) : Int → Int := fun i => s (n - 1 - i)
theorem reverse_loop (h0n : 0 ≤ n) (hn : n ≤ 48) : ∀ (d N : Nat) (i : Int) (S : S2), 0 ≤ i → i + d = n / 2 → d < N → CvC S c n (fun j => if j < i ∨ n - 1 - i < j then s (n - 1 - j) else s j) z → ∃ S', (∀ K, f_X0_reverse_2 c K N i S = K S') ∧ CvC S' c n (turnS s n) z ∧ Fr (rowOf c) S S' := by
  intro d
  induction d with
  | zero =>
    intro N i S h0 hi hN hc
    obtain ⟨N, rfl⟩ : ∃ M, N = M + 1 := ⟨N - 1, by omega⟩
    have hcn := hc.1
    refine ⟨S, fun K => ?_, hc.congr (fun j a b => ?_), Fr.refl⟩
    · rw [f_X0_reverse_2]
      simp (disch := omega) only [hcn, gI, uI, cI_of, aI_of, sI_of, mnI_of, mxI_of, abI_of, dvI_of, rmI_of, bI_of, bV_of, rI, rV, rL, rP, rT, rZ_of, rC_of, if_pos, if_neg]
    · by_cases q : j < i ∨ n - 1 - i < j
      · rw [if_pos q]; rfl
      · rw [if_neg q]; show s j = s (n - 1 - j); rw [show n - 1 - j = j by omega]
  | succ d ih =>
    intro N i S h0 hi hN hc
    obtain ⟨N, rfl⟩ : ∃ M, N = M + 1 := ⟨N - 1, by omega⟩
    have hcn := hc.1
    have e1 := hc.2.2 i h0 (by omega)
    have e2 := hc.2.2 (n - 1 - i) (by omega) (by omega)
    dsimp only at e1
    rw [if_neg (by omega)] at e1
    dsimp only at e2
    rw [if_neg (by omega)] at e2
    have hc2 := (hc.put i (s (n - 1 - i))).put (n - 1 - i) (s i)
    obtain ⟨S', f1, f2, f3⟩ := ih N (i + 1) _ (by omega) (by omega) (by omega) (hc2.congr (t := fun j => if j < i + 1 ∨ n - 1 - (i + 1) < j then s (n - 1 - j) else s j) (fun j p q => by
      by_cases g1 : j = n - 1 - i
      · rw [if_pos g1, if_pos (by omega), g1, show n - 1 - (n - 1 - i) = i by omega]
      · rw [if_neg g1]
        by_cases g2 : j = i
        · rw [if_pos g2, if_pos (by omega), g2]
        · rw [if_neg g2]
          by_cases g3 : j < i ∨ n - 1 - i < j
          · rw [if_pos g3, if_pos (by omega)]
          · rw [if_neg g3, if_neg (by omega)]))
    refine ⟨S', fun K => ?_, f2, ((Fr.refl.pI (A := rowOf c) rfl).pI rfl).trans f3 (fun _ h => h) (fun _ h => h)⟩
    have hc1 : (pI S (c + 1) i (s (n - 1 - i))).1 c 1 = n := by rw [pI_cell (by omega)]; exact hcn
    rw [f_X0_reverse_2]
    simp (disch := omega) only [hcn, e1, e2, hc1, gI, uI, cI_of, aI_of, sI_of, mnI_of, mxI_of, abI_of, dvI_of, rmI_of, bI_of, bV_of, rI, rV, rL, rP, rT, rZ_of, rC_of, if_pos, if_neg]
    exact f1 K
theorem reverse_of (N : Nat) (hc : CvC S c n s z) (h0 : 1 ≤ n) (hn : n ≤ 48) (hN : 100 ≤ N) : ∃ S', f_X0_reverse N S c = some (s (n - 1), S') ∧ CvC S' c n (turnS s n) z ∧ Fr (rowOf c) S S' := by
  obtain ⟨S', e1, e2, e3⟩ := reverse_loop (c := c) (z := z) (s := s) (n := n) (by omega) hn (n / 2).toNat N 0 S (by omega) (by omega) (by omega) (hc.congr (fun j a b => by rw [if_neg (by omega)]))
  refine ⟨S', ?_, e2, e3⟩
  have e := e2.2.2 0 (by omega) (by omega)
  unfold f_X0_reverse
  rw [e1]
  simp (disch := omega) only [f_X0_reverse_58, e, gI, uI, cI_of, aI_of, sI_of, mnI_of, mxI_of, abI_of, dvI_of, rmI_of, bI_of, bV_of, rI, rV, rL, rP, rT, rZ_of, rC_of, if_pos, if_neg]
  show some (s (n - 1 - 0), S') = _
  rw [show n - 1 - 0 = n - 1 by omega]
end CURVEACTS
