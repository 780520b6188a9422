/-! the class's curve: blend, refusal, copyFrom -/
def smS (s : Int → Int) (n : Int) : Int → Int := fun i => (s (max 0 (i - 1)) + 2 * s i + s (min (n - 1) (i + 1))) / 4
def midI (a b c : Int) : Int := max (min a b) (min (max a b) c)
def meS (s : Int → Int) (n : Int) : Int → Int := fun i => midI (s (max 0 (i - 1))) (s i) (s (min (n - 1) (i + 1)))
def blS (m : Int) (s : Int → Int) (n : Int) : Int → Int := if m = 0 then smS s n else meS s n
section CURVEACTS2
variable {S : S2} {c : Nat} {n z : Int} {s : Int → Int}
theorem blS_b {m : Int} (hb : CvB n s) : CvB n (blS m s n) := fun i p q => by
  have g1 := hb (max 0 (i - 1)) (by omega) (by omega)
  have g2 := hb i p q
  have g3 := hb (min (n - 1) (i + 1)) (by omega) (by omega)
  unfold blS
  by_cases h : m = 0
  · rw [if_pos h]; unfold smS; omega
  · rw [if_neg h]; unfold meS midI; omega
theorem middle_of (N : Nat) {a b d : Int} (h1 : 0 ≤ a) (h2 : a ≤ 999) (h3 : 0 ≤ b) (h4 : b ≤ 999) (h5 : 0 ≤ d) (h6 : d ≤ 999) : f_X0_middle N S a b d = some (midI a b d, S) := by
  unfold f_X0_middle
  simp (disch := omega) only [gI, uI, cI_of, aI_of, sI_of, mnI_of, mxI_of, abI_of, dvI_of, rmI_of, bI_of, bV_of, rI, rV, rL, rP, rT, rZ_of, rC_of, if_pos, if_neg, if_true, if_false]
  rfl
theorem blend_loop {m : Int} (hb : CvB n s) (hn : n ≤ 48) (hm : m = 0 ∨ m = 1) : ∀ (d N : Nat) (i : Int) (S : S2), 0 ≤ i → i + d = n → d < N → CvC S c n (fun j => if j < i then blS m s n j else s j) z → ∃ S', (∀ k x, (d = 0 ∨ x = s (max 0 (i - 1))) → f_X0_blend_20 c k N m x i S = k S') ∧ CvC S' c n (blS m s n) z ∧ Fr (rowOf c) S S' := by
  intro d
  induction d with
  | zero =>
    intro N i S h0 hi hN hc
    obtain ⟨N, rfl⟩ : ∃ M, N = M + 1 := ⟨N - 1, by omega⟩
    have hcn := hc.1
    refine ⟨S, fun k x hx => ?_, hc.congr (fun j a b => if_pos (by omega)), Fr.refl⟩
    rw [f_X0_blend_20]
    simp (disch := omega) only [gI, uI, cI_of, aI_of, sI_of, mnI_of, mxI_of, abI_of, dvI_of, rmI_of, bI_of, bV_of, rI, rV, rL, rP, rT, rZ_of, rC_of, if_pos, if_neg, if_true, if_false]
  | succ d ih =>
    intro N i S h0 hi hN hc
    obtain ⟨N, rfl⟩ : ∃ M, N = M + 1 := ⟨N - 1, by omega⟩
    have hcn := hc.1
    have e := hc.2.2 i h0 (by omega)
    dsimp only at e
    rw [if_neg (by omega)] at e
    have g1 := hb (max 0 (i - 1)) (by omega) (by omega)
    have g2 := hb i h0 (by omega)
    have g3 := hb (min (n - 1) (i + 1)) (by omega) (by omega)
    obtain ⟨S', e1, e2, e3⟩ := ih N (i + 1) (pI S (c + 1) i (blS m s n i)) (by omega) (by omega) (by omega) (lay_next hc)
    refine ⟨S', fun k x hx => ?_, e2, (Fr.refl.pI (A := rowOf c) rfl).trans e3 (fun _ h => h) (fun _ h => h)⟩
    have hx : x = s (max 0 (i - 1)) := hx.elim (fun h => by omega) id
    subst hx
    have fin : ∀ v, v = blS m s n i → f_X0_blend_92 c (f_X0_blend_20 c k N) N m i (s i) v i S = k S' := fun v hv => by
      rw [f_X0_blend_92]
      simp (disch := omega) only [hv, gI, uI, cI_of, aI_of, sI_of, mnI_of, mxI_of, abI_of, dvI_of, rmI_of, bI_of, bV_of, rI, rV, rL, rP, rT, rZ_of, rC_of, if_pos, if_neg, if_true, if_false]
      exact e1 k (s i) (Or.inr (by rw [show max 0 (i + 1 - 1) = i by omega]))
    have mid : ∀ y, y = s (min (n - 1) (i + 1)) → f_X0_blend_59 c (f_X0_blend_20 c k N) N m (s (max 0 (i - 1))) i (s i) y S = k S' := fun y hy => by
      subst hy
      rw [f_X0_blend_59]
      rcases hm with rfl | rfl
      · simp (disch := omega) only [gI, uI, cI_of, aI_of, sI_of, mnI_of, mxI_of, abI_of, dvI_of, rmI_of, bI_of, bV_of, rI, rV, rL, rP, rT, rZ_of, rC_of, if_pos, if_neg, if_true, if_false]
        exact fin _ (by unfold blS; rw [if_pos rfl]; rfl)
      · simp (disch := omega) only [middle_of N g1.1 g1.2 g2.1 g2.2 g3.1 g3.2, gI, uI, cI_of, aI_of, sI_of, mnI_of, mxI_of, abI_of, dvI_of, rmI_of, bI_of, bV_of, rI, rV, rL, rP, rT, rZ_of, rC_of, if_pos, if_neg, if_true, if_false]
        exact fin _ (by unfold blS; rw [if_neg (by decide)]; rfl)
    rw [f_X0_blend_20]
    by_cases h : i + 1 < n
    · have e4 := hc.2.2 (i + 1) (by omega) h
      dsimp only at e4
      rw [if_neg (by omega)] at e4
      simp (disch := omega) only [has_y N hc hn, e, e4, gI, uI, cI_of, aI_of, sI_of, mnI_of, mxI_of, abI_of, dvI_of, rmI_of, bI_of, bV_of, rI, rV, rL, rP, rT, rZ_of, rC_of, if_pos, if_neg, if_true, if_false]
      exact mid _ (by rw [show min (n - 1) (i + 1) = i + 1 by omega])
    · simp (disch := omega) only [has_n N hc (by omega) hn, e, gI, uI, cI_of, aI_of, sI_of, mnI_of, mxI_of, abI_of, dvI_of, rmI_of, bI_of, bV_of, rI, rV, rL, rP, rT, rZ_of, rC_of, if_pos, if_neg, if_true, if_false]
      exact mid _ (by rw [show min (n - 1) (i + 1) = i by omega])
theorem blend_of (N : Nat) {m : Int} (hc : CvC S c n s z) (hb : CvB n s) (h0 : 1 ≤ n) (hn : n ≤ 48) (hm : m = 0 ∨ m = 1) (hN : 100 ≤ N) : ∃ S', f_X0_blend N S c m = some (n, S') ∧ CvC S' c n (blS m s n) z ∧ Fr (rowOf c) S S' := by
  obtain ⟨S', e1, e2, e3⟩ := blend_loop (c := c) (z := z) hb hn hm n.toNat N 0 S (by omega) (by omega) (by omega) (hc.congr (fun j a b => by rw [if_neg (by omega)]))
  have hcn := hc.1
  have hcn2 := e2.1
  have e := hc.2.2 0 (by omega) (by omega)
  refine ⟨S', ?_, e2, e3⟩
  unfold f_X0_blend
  simp (disch := omega) only [hcn, e, f_X0_blend_17, gI, uI, cI_of, aI_of, sI_of, mnI_of, mxI_of, abI_of, dvI_of, rmI_of, bI_of, bV_of, rI, rV, rL, rP, rT, rZ_of, rC_of, if_pos, if_neg, if_true, if_false]
  rw [e1 _ _ (Or.inr (by rw [show max 0 ((0 : Int) - 1) = 0 by omega]))]
  simp (disch := omega) only [f_X0_blend_102, hcn2, gI, uI, cI_of, aI_of, sI_of, mnI_of, mxI_of, abI_of, dvI_of, rmI_of, bI_of, bV_of, rI, rV, rL, rP, rT, rZ_of, rC_of, if_pos, if_neg, if_true, if_false]
/-- are the numbers of a step in their bounds -/
def bnF (n sort a b : Int) : Prop := (sort = 4 ∨ sort = 8 → 0 ≤ a ∧ a ≤ 999) ∧ (sort = 5 → -999 ≤ a ∧ a ≤ 999) ∧ (sort = 6 → 0 ≤ a ∧ a ≤ 99 ∧ 1 ≤ b ∧ b ≤ 99) ∧ (sort = 7 → 0 ≤ b ∧ b ≤ 999) ∧ (sort = 9 → 1 ≤ b ∧ b ≤ n - a)
def bnI (n sort a b : Int) : Int := if (sort = 4 ∨ sort = 8 → 0 ≤ a ∧ a ≤ 999) ∧ (sort = 5 → -999 ≤ a ∧ a ≤ 999) ∧ (sort = 6 → 0 ≤ a ∧ a ≤ 99 ∧ 1 ≤ b ∧ b ≤ 99) ∧ (sort = 7 → 0 ≤ b ∧ b ≤ 999) ∧ (sort = 9 → 1 ≤ b ∧ b ≤ n - a) then 1 else 0
theorem bnI_y {n sort a b : Int} (h : bnF n sort a b) : bnI n sort a b = 1 := if_pos h
theorem bnI_n {n sort a b : Int} (h : ¬ bnF n sort a b) : bnI n sort a b = 0 := if_neg h
theorem inBounds_of (N : Nat) (hc : CvC S c n s z) (h0 : 0 ≤ n) (hn : n ≤ 48) {sort a b : Int} (hs1 : -2147483648 ≤ sort) (hs2 : sort ≤ 2147483647) (h1 : -2147483648 ≤ a) (h2 : a ≤ 2147483647) (h3 : -2147483648 ≤ b) (h4 : b ≤ 2147483647) (h9 : sort = 9 → 0 ≤ a ∧ a < n) : f_X0_inBounds N S c sort a b = some (bnI n sort a b, S) := by
  have hcn := hc.1
  unfold f_X0_inBounds bnI
  by_cases g4 : sort = 4
  · by_cases x1 : a < 0
    · simp (disch := omega) only [gI, uI, cI_of, aI_of, sI_of, mnI_of, mxI_of, abI_of, dvI_of, rmI_of, bI_of, bV_of, rI, rV, rL, rP, rT, rZ_of, rC_of, if_pos, if_neg, if_true, if_false]
    · by_cases x2 : 999 < a
      · simp (disch := omega) only [gI, uI, cI_of, aI_of, sI_of, mnI_of, mxI_of, abI_of, dvI_of, rmI_of, bI_of, bV_of, rI, rV, rL, rP, rT, rZ_of, rC_of, if_pos, if_neg, if_true, if_false]
      · simp (disch := omega) only [gI, uI, cI_of, aI_of, sI_of, mnI_of, mxI_of, abI_of, dvI_of, rmI_of, bI_of, bV_of, rI, rV, rL, rP, rT, rZ_of, rC_of, if_pos, if_neg, if_true, if_false]
  by_cases g5 : sort = 5
  · by_cases x1 : a < -999
    · simp (disch := omega) only [gI, uI, cI_of, aI_of, sI_of, mnI_of, mxI_of, abI_of, dvI_of, rmI_of, bI_of, bV_of, rI, rV, rL, rP, rT, rZ_of, rC_of, if_pos, if_neg, if_true, if_false]
    · by_cases x2 : 999 < a
      · simp (disch := omega) only [gI, uI, cI_of, aI_of, sI_of, mnI_of, mxI_of, abI_of, dvI_of, rmI_of, bI_of, bV_of, rI, rV, rL, rP, rT, rZ_of, rC_of, if_pos, if_neg, if_true, if_false]
      · simp (disch := omega) only [gI, uI, cI_of, aI_of, sI_of, mnI_of, mxI_of, abI_of, dvI_of, rmI_of, bI_of, bV_of, rI, rV, rL, rP, rT, rZ_of, rC_of, if_pos, if_neg, if_true, if_false]
  by_cases g6 : sort = 6
  · by_cases x1 : a < 0
    · simp (disch := omega) only [gI, uI, cI_of, aI_of, sI_of, mnI_of, mxI_of, abI_of, dvI_of, rmI_of, bI_of, bV_of, rI, rV, rL, rP, rT, rZ_of, rC_of, if_pos, if_neg, if_true, if_false]
    · by_cases x2 : 99 < a
      · simp (disch := omega) only [gI, uI, cI_of, aI_of, sI_of, mnI_of, mxI_of, abI_of, dvI_of, rmI_of, bI_of, bV_of, rI, rV, rL, rP, rT, rZ_of, rC_of, if_pos, if_neg, if_true, if_false]
      · by_cases x3 : b < 1
        · simp (disch := omega) only [gI, uI, cI_of, aI_of, sI_of, mnI_of, mxI_of, abI_of, dvI_of, rmI_of, bI_of, bV_of, rI, rV, rL, rP, rT, rZ_of, rC_of, if_pos, if_neg, if_true, if_false]
        · by_cases x4 : 99 < b
          · simp (disch := omega) only [gI, uI, cI_of, aI_of, sI_of, mnI_of, mxI_of, abI_of, dvI_of, rmI_of, bI_of, bV_of, rI, rV, rL, rP, rT, rZ_of, rC_of, if_pos, if_neg, if_true, if_false]
          · simp (disch := omega) only [gI, uI, cI_of, aI_of, sI_of, mnI_of, mxI_of, abI_of, dvI_of, rmI_of, bI_of, bV_of, rI, rV, rL, rP, rT, rZ_of, rC_of, if_pos, if_neg, if_true, if_false]
  by_cases g7 : sort = 7
  · by_cases x1 : b < 0
    · simp (disch := omega) only [gI, uI, cI_of, aI_of, sI_of, mnI_of, mxI_of, abI_of, dvI_of, rmI_of, bI_of, bV_of, rI, rV, rL, rP, rT, rZ_of, rC_of, if_pos, if_neg, if_true, if_false]
    · by_cases x2 : 999 < b
      · simp (disch := omega) only [gI, uI, cI_of, aI_of, sI_of, mnI_of, mxI_of, abI_of, dvI_of, rmI_of, bI_of, bV_of, rI, rV, rL, rP, rT, rZ_of, rC_of, if_pos, if_neg, if_true, if_false]
      · simp (disch := omega) only [gI, uI, cI_of, aI_of, sI_of, mnI_of, mxI_of, abI_of, dvI_of, rmI_of, bI_of, bV_of, rI, rV, rL, rP, rT, rZ_of, rC_of, if_pos, if_neg, if_true, if_false]
  by_cases g8 : sort = 8
  · by_cases x1 : a < 0
    · simp (disch := omega) only [gI, uI, cI_of, aI_of, sI_of, mnI_of, mxI_of, abI_of, dvI_of, rmI_of, bI_of, bV_of, rI, rV, rL, rP, rT, rZ_of, rC_of, if_pos, if_neg, if_true, if_false]
    · by_cases x2 : 999 < a
      · simp (disch := omega) only [gI, uI, cI_of, aI_of, sI_of, mnI_of, mxI_of, abI_of, dvI_of, rmI_of, bI_of, bV_of, rI, rV, rL, rP, rT, rZ_of, rC_of, if_pos, if_neg, if_true, if_false]
      · simp (disch := omega) only [gI, uI, cI_of, aI_of, sI_of, mnI_of, mxI_of, abI_of, dvI_of, rmI_of, bI_of, bV_of, rI, rV, rL, rP, rT, rZ_of, rC_of, if_pos, if_neg, if_true, if_false]
  by_cases g9 : sort = 9
  · have := h9 g9
    by_cases x1 : b < 1
    · simp (disch := omega) only [gI, uI, cI_of, aI_of, sI_of, mnI_of, mxI_of, abI_of, dvI_of, rmI_of, bI_of, bV_of, rI, rV, rL, rP, rT, rZ_of, rC_of, if_pos, if_neg, if_true, if_false]
    · by_cases x2 : n - a < b
      · simp (disch := omega) only [hcn, gI, uI, cI_of, aI_of, sI_of, mnI_of, mxI_of, abI_of, dvI_of, rmI_of, bI_of, bV_of, rI, rV, rL, rP, rT, rZ_of, rC_of, if_pos, if_neg, if_true, if_false]
      · simp (disch := omega) only [hcn, gI, uI, cI_of, aI_of, sI_of, mnI_of, mxI_of, abI_of, dvI_of, rmI_of, bI_of, bV_of, rI, rV, rL, rP, rT, rZ_of, rC_of, if_pos, if_neg, if_true, if_false]
  simp (disch := omega) only [gI, uI, cI_of, aI_of, sI_of, mnI_of, mxI_of, abI_of, dvI_of, rmI_of, bI_of, bV_of, rI, rV, rL, rP, rT, rZ_of, rC_of, if_pos, if_neg, if_true, if_false]
/-- why a step is refused: 0 no place, 1 out of bounds, -1 it isn't -/
def rfF (n sort a b : Int) : Int := if n = 0 then 0 else if (sort = 7 ∨ sort = 9) ∧ ¬ (0 ≤ a ∧ a < n) then 0 else if bnI n sort a b = 0 then 1 else -1
theorem refusal_of (N : Nat) (hc : CvC S c n s z) (h0 : 0 ≤ n) (hn : n ≤ 48) {sort a b : Int} (hs1 : -2147483648 ≤ sort) (hs2 : sort ≤ 2147483647) (h1 : -2147483648 ≤ a) (h2 : a ≤ 2147483647) (h3 : -2147483648 ≤ b) (h4 : b ≤ 2147483647) : f_X0_refusal N S c sort a b = some (rfF n sort a b, S) := by
  have hcn := hc.1
  have hbn : bnI n sort a b = 0 ∨ bnI n sort a b = 1 := by unfold bnI; split <;> omega
  have key : ((sort = 7 ∨ sort = 9) → 0 ≤ a ∧ a < n) → n ≠ 0 → f_X0_refusal_41 c N sort a b S = some (rfF n sort a b, S) := fun g gn => by
    rw [f_X0_refusal_41, inBounds_of N hc h0 hn hs1 hs2 h1 h2 h3 h4 (fun e => g (Or.inr e))]
    unfold rfF
    rcases hbn with e | e
    · rw [e]
      simp (disch := omega) only [gI, uI, cI_of, aI_of, sI_of, mnI_of, mxI_of, abI_of, dvI_of, rmI_of, bI_of, bV_of, rI, rV, rL, rP, rT, rZ_of, rC_of, if_pos, if_neg, if_true, if_false]
    · rw [e]
      simp (disch := omega) only [gI, uI, cI_of, aI_of, sI_of, mnI_of, mxI_of, abI_of, dvI_of, rmI_of, bI_of, bV_of, rI, rV, rL, rP, rT, rZ_of, rC_of, if_pos, if_neg, if_true, if_false]
  have k17 : ∀ y, ((sort = 7 ∨ sort = 9) ∧ y = 1) ∨ (¬ (sort = 7 ∨ sort = 9) ∧ y = 0) → f_X0_refusal_17 c N sort a b y S = some (rfF n sort a b, S) := fun y hy => by
    rw [f_X0_refusal_17]
    by_cases gn : n = 0
    · unfold rfF
      simp (disch := omega) only [hcn, gI, uI, cI_of, aI_of, sI_of, mnI_of, mxI_of, abI_of, dvI_of, rmI_of, bI_of, bV_of, rI, rV, rL, rP, rT, rZ_of, rC_of, if_pos, if_neg, if_true, if_false]
    · rcases hy with ⟨g, rfl⟩ | ⟨g, rfl⟩
      · by_cases ga : 0 ≤ a ∧ a < n
        · simp (disch := omega) only [hcn, has_y N hc hn, gI, uI, cI_of, aI_of, sI_of, mnI_of, mxI_of, abI_of, dvI_of, rmI_of, bI_of, bV_of, rI, rV, rL, rP, rT, rZ_of, rC_of, if_pos, if_neg, if_true, if_false]
          exact key (fun _ => ga) gn
        · unfold rfF
          simp (disch := omega) only [hcn, has_n N hc h0 hn, gI, uI, cI_of, aI_of, sI_of, mnI_of, mxI_of, abI_of, dvI_of, rmI_of, bI_of, bV_of, rI, rV, rL, rP, rT, rZ_of, rC_of, if_pos, if_neg, if_true, if_false]
      · simp (disch := omega) only [hcn, gI, uI, cI_of, aI_of, sI_of, mnI_of, mxI_of, abI_of, dvI_of, rmI_of, bI_of, bV_of, rI, rV, rL, rP, rT, rZ_of, rC_of, if_pos, if_neg, if_true, if_false]
        exact key (fun q => absurd q g) gn
  unfold f_X0_refusal
  by_cases g7 : sort = 7
  · simp (disch := omega) only [f_X0_refusal_12, gI, uI, cI_of, aI_of, sI_of, mnI_of, mxI_of, abI_of, dvI_of, rmI_of, bI_of, bV_of, rI, rV, rL, rP, rT, rZ_of, rC_of, if_pos, if_neg, if_true, if_false]
    exact k17 1 (Or.inl ⟨Or.inl g7, rfl⟩)
  · by_cases g9 : sort = 9
    · simp (disch := omega) only [f_X0_refusal_12, gI, uI, cI_of, aI_of, sI_of, mnI_of, mxI_of, abI_of, dvI_of, rmI_of, bI_of, bV_of, rI, rV, rL, rP, rT, rZ_of, rC_of, if_pos, if_neg, if_true, if_false]
      exact k17 1 (Or.inl ⟨Or.inr g9, rfl⟩)
    · simp (disch := omega) only [gI, uI, cI_of, aI_of, sI_of, mnI_of, mxI_of, abI_of, dvI_of, rmI_of, bI_of, bV_of, rI, rV, rL, rP, rT, rZ_of, rC_of, if_pos, if_neg, if_true, if_false]
      exact k17 0 (Or.inr ⟨by omega, rfl⟩)
theorem copyFrom_of (N : Nat) {c0 : Nat} (hc : CvC S c n s z) (hn : n ≤ 48) (d1 : c ≠ c0) (d2 : c ≠ c0 + 1) (d3 : c0 ≠ c + 1) : ∃ S', f_X0_copyFrom N S c0 c = some S' ∧ CvC S' c0 n s z ∧ Fr (objOf c0) S S' ∧ (∀ j, 0 ≤ j → j < 48 → S'.1 (c0 + 1) j = S.1 (c + 1) j) := by
  have hcn := hc.1
  have hcz := hc.2.1
  have e1 : (pI S c0 1 n).1 c 2 = z := by rw [pI_cell d1]; exact hcz
  refine ⟨pC (pI (pI S c0 1 n) c0 2 z) (c + 1) (c0 + 1) 0 0 48, ?_, ⟨?_, ?_, fun j a b => ?_⟩, ((Fr.refl.pI (A := objOf c0) (Or.inl rfl)).pI (Or.inl rfl)).pC (Or.inr rfl), fun j a b => ?_⟩
  · unfold f_X0_copyFrom
    simp (disch := omega) only [hcn, e1, cpI_of, gI, uI, cI_of, aI_of, sI_of, mnI_of, mxI_of, abI_of, dvI_of, rmI_of, bI_of, bV_of, rI, rV, rL, rP, rT, rZ_of, rC_of, if_pos, if_neg, if_true, if_false]
  · rw [pC_cell (by omega), pI_idx (by omega), pI_eq]
  · rw [pC_cell (by omega), pI_eq]
  · rw [pC_in (by omega) (by omega), pI_cell (by omega), pI_cell (by omega), show 0 + (j - 0) = j by omega]
    exact hc.2.2 j a b
  · rw [pC_in (by omega) (by omega), pI_cell (by omega), pI_cell (by omega), show 0 + (j - 0) = j by omega]
end CURVEACTS2
