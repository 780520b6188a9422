/-! the reference's curve -/
section CURVEM
variable {S : S2} {n z : Int} {s : Int → Int}
def WasM (S : S2) (n : Int) (s : Int → Int) : Prop := ∀ j, 0 ≤ j → j < n → S.1 22 j = s j
theorem many_of (N : Nat) (hc : CvM S 8 n s z) : f_X11_many N S = some (n, S) := by
  unfold f_X11_many
  have e := hc.1
  simp (disch := omega) only [e, gI, uI, cI_of, aI_of, sI_of, mnI_of, mxI_of, abI_of, dvI_of, rmI_of, bI_of, bV_of, rI, rV, rL, rP, rT, rZ_of, rC_of, if_pos, if_neg, if_true, if_false]
theorem in_y (N : Nat) {a b d : Int} (h1 : -2147483648 ≤ b) (h2 : d ≤ 2147483647) (h3 : b ≤ a) (h4 : a ≤ d) : f_X11_in N S a b d = some (1, S) := by
  unfold f_X11_in
  simp (disch := omega) only [gI, uI, cI_of, aI_of, sI_of, mnI_of, mxI_of, abI_of, dvI_of, rmI_of, bI_of, bV_of, rI, rV, rL, rP, rT, rZ_of, rC_of, if_pos, if_neg, if_true, if_false]
theorem in_n (N : Nat) {a b d : Int} (h1 : -2147483648 ≤ b) (h2 : b ≤ 2147483647) (h3 : -2147483648 ≤ d) (h4 : d ≤ 2147483647) (h5 : -2147483648 ≤ a) (h6 : a ≤ 2147483647) (h : a < b ∨ d < a) : f_X11_in N S a b d = some (0, S) := by
  unfold f_X11_in
  by_cases g : a < b
  · simp (disch := omega) only [gI, uI, cI_of, aI_of, sI_of, mnI_of, mxI_of, abI_of, dvI_of, rmI_of, bI_of, bV_of, rI, rV, rL, rP, rT, rZ_of, rC_of, if_pos, if_neg, if_true, if_false]
  · simp (disch := omega) only [gI, uI, cI_of, aI_of, sI_of, mnI_of, mxI_of, abI_of, dvI_of, rmI_of, bI_of, bV_of, rI, rV, rL, rP, rT, rZ_of, rC_of, if_pos, if_neg, if_true, if_false]
theorem isPlace_y (N : Nat) (hc : CvM S 8 n s z) (ht : S.1 0 29 = 1) (hn : n ≤ 48) {p : Int} (h1 : 0 ≤ p) (h2 : p < n) : f_X11_isPlace N S p = some (1, S) := by
  unfold f_X11_isPlace
  simp (disch := omega) only [ht, many_of N hc, in_y N, gI, uI, cI_of, aI_of, sI_of, mnI_of, mxI_of, abI_of, dvI_of, rmI_of, bI_of, bV_of, rI, rV, rL, rP, rT, rZ_of, rC_of, if_pos, if_neg, if_true, if_false]
theorem isPlace_n (N : Nat) (hc : CvM S 8 n s z) (ht : S.1 0 29 = 1) (h0 : 0 ≤ n) (hn : n ≤ 48) {p : Int} (h1 : -2147483648 ≤ p) (h2 : p ≤ 2147483647) (h : p < 0 ∨ n ≤ p) : f_X11_isPlace N S p = some (0, S) := by
  unfold f_X11_isPlace
  simp (disch := omega) only [ht, many_of N hc, in_n N, gI, uI, cI_of, aI_of, sI_of, mnI_of, mxI_of, abI_of, dvI_of, rmI_of, bI_of, bV_of, rI, rV, rL, rP, rT, rZ_of, rC_of, if_pos, if_neg, if_true, if_false]
theorem isPlace_0 (N : Nat) (ht : S.1 0 29 = 0) {p : Int} : f_X11_isPlace N S p = some (0, S) := by
  unfold f_X11_isPlace
  simp (disch := omega) only [ht, gI, uI, cI_of, aI_of, sI_of, mnI_of, mxI_of, abI_of, dvI_of, rmI_of, bI_of, bV_of, rI, rV, rL, rP, rT, rZ_of, rC_of, if_pos, if_neg, if_true, if_false]
theorem apart_of (N : Nat) {a b : Int} (h1 : -1000000 ≤ a) (h2 : a ≤ 1000000) (h3 : -1000000 ≤ b) (h4 : b ≤ 1000000) : f_X11_apart N S a b = some (max (a - b) (b - a), S) := by
  unfold f_X11_apart
  by_cases g : a ≤ b
  · simp (disch := omega) only [gI, uI, cI_of, aI_of, sI_of, mnI_of, mxI_of, abI_of, dvI_of, rmI_of, bI_of, bV_of, rI, rV, rL, rP, rT, rZ_of, rC_of, if_pos, if_neg, if_true, if_false]
    rw [show max (a - b) (b - a) = b - a by omega]
  · simp (disch := omega) only [gI, uI, cI_of, aI_of, sI_of, mnI_of, mxI_of, abI_of, dvI_of, rmI_of, bI_of, bV_of, rI, rV, rL, rP, rT, rZ_of, rC_of, if_pos, if_neg, if_true, if_false]
    rw [show max (a - b) (b - a) = a - b by omega]
theorem leastM_loop (hc : CvM S 8 n s z) (hb : CvB n s) (hn : n ≤ 48) : ∀ (d N : Nat) (i a : Int), 0 ≤ i → i + d = n → d < N → 0 ≤ a → a ≤ 999 → f_X11_least_9 N a i S = some (minF s d i a, S) := by
  intro d
  induction d with
  | zero =>
    intro N i a h0 hi hN ha1 ha2
    obtain ⟨N, rfl⟩ : ∃ M, N = M + 1 := ⟨N - 1, by omega⟩
    rw [f_X11_least_9]
    simp (disch := omega) only [many_of N hc, gI, uI, cI_of, aI_of, sI_of, mnI_of, mxI_of, abI_of, dvI_of, rmI_of, bI_of, bV_of, rI, rV, rL, rP, rT, rZ_of, rC_of, if_pos, if_neg, if_true, if_false]
    rfl
  | succ d ih =>
    intro N i a h0 hi hN ha1 ha2
    obtain ⟨N, rfl⟩ : ∃ M, N = M + 1 := ⟨N - 1, by omega⟩
    have e := hc.2.2 i h0 (by omega)
    have hb1 := hb i h0 (by omega)
    rw [f_X11_least_9]
    simp (disch := omega) only [many_of N hc, gI, uI, cI_of, aI_of, sI_of, mnI_of, mxI_of, abI_of, dvI_of, rmI_of, bI_of, bV_of, rI, rV, rL, rP, rT, rZ_of, rC_of, if_pos, if_neg, if_true, if_false]
    rw [ih N (i + 1) _ (by omega) (by omega) (by omega) (by omega) (by omega), e]
    rfl
theorem leastM_of (N : Nat) (hc : CvM S 8 n s z) (hb : CvB n s) (h0 : 1 ≤ n) (hn : n ≤ 48) (hN : 100 ≤ N) : f_X11_least N S = some (minF s n.toNat 0 999, S) := by
  unfold f_X11_least
  have e := hc.2.2 0 (by omega) (by omega)
  have hb1 := hb 0 (by omega) (by omega)
  simp (disch := omega) only [e, gI, uI, cI_of, aI_of, sI_of, mnI_of, mxI_of, abI_of, dvI_of, rmI_of, bI_of, bV_of, rI, rV, rL, rP, rT, rZ_of, rC_of, if_pos, if_neg, if_true, if_false]
  rw [leastM_loop hc hb hn (n.toNat - 1) N 1 (s 0) (by omega) (by omega) (by omega) (by omega) (by omega)]
  obtain ⟨d, hd⟩ : ∃ d, n.toNat = d + 1 := ⟨n.toNat - 1, by omega⟩
  rw [hd]
  show some (minF s d 1 (s 0), S) = some (minF s d (0 + 1) (min 999 (s 0)), S)
  rw [show min 999 (s 0) = s 0 by omega, show (0 : Int) + 1 = 1 by omega]
theorem greatestM_loop (hc : CvM S 8 n s z) (hb : CvB n s) (hn : n ≤ 48) : ∀ (d N : Nat) (i a : Int), 0 ≤ i → i + d = n → d < N → 0 ≤ a → a ≤ 999 → f_X11_greatest_4 N a i S = some (maxF s d i a, S) := by
  intro d
  induction d with
  | zero =>
    intro N i a h0 hi hN ha1 ha2
    obtain ⟨N, rfl⟩ : ∃ M, N = M + 1 := ⟨N - 1, by omega⟩
    rw [f_X11_greatest_4]
    simp (disch := omega) only [many_of N hc, gI, uI, cI_of, aI_of, sI_of, mnI_of, mxI_of, abI_of, dvI_of, rmI_of, bI_of, bV_of, rI, rV, rL, rP, rT, rZ_of, rC_of, if_pos, if_neg, if_true, if_false]
    rfl
  | succ d ih =>
    intro N i a h0 hi hN ha1 ha2
    obtain ⟨N, rfl⟩ : ∃ M, N = M + 1 := ⟨N - 1, by omega⟩
    have e := hc.2.2 i h0 (by omega)
    have hb1 := hb i h0 (by omega)
    rw [f_X11_greatest_4]
    simp (disch := omega) only [many_of N hc, gI, uI, cI_of, aI_of, sI_of, mnI_of, mxI_of, abI_of, dvI_of, rmI_of, bI_of, bV_of, rI, rV, rL, rP, rT, rZ_of, rC_of, if_pos, if_neg, if_true, if_false]
    rw [ih N (i + 1) _ (by omega) (by omega) (by omega) (by omega) (by omega), e]
    rfl
theorem greatestM_of (N : Nat) (hc : CvM S 8 n s z) (hb : CvB n s) (h0 : 0 ≤ n) (hn : n ≤ 48) (hN : 100 ≤ N) : f_X11_greatest N S = some (maxF s n.toNat 0 0, S) :=
  greatestM_loop hc hb hn n.toNat N 0 0 (by omega) (by omega) (by omega) (by omega) (by omega)
theorem sumM_loop (hc : CvM S 8 n s z) (hn : n ≤ 48) : ∀ (d N : Nat) (i a : Int), 0 ≤ i → i + d = n → d < N → f_X11_sumOf_4 N a i S = some (sumF s d i a, S) := by
  intro d
  induction d with
  | zero =>
    intro N i a h0 hi hN
    obtain ⟨N, rfl⟩ : ∃ M, N = M + 1 := ⟨N - 1, by omega⟩
    rw [f_X11_sumOf_4]
    simp (disch := omega) only [many_of N hc, gI, uI, cI_of, aI_of, sI_of, mnI_of, mxI_of, abI_of, dvI_of, rmI_of, bI_of, bV_of, rI, rV, rL, rP, rT, rZ_of, rC_of, if_pos, if_neg, if_true, if_false]
    rfl
  | succ d ih =>
    intro N i a h0 hi hN
    obtain ⟨N, rfl⟩ : ∃ M, N = M + 1 := ⟨N - 1, by omega⟩
    have e := hc.2.2 i h0 (by omega)
    rw [f_X11_sumOf_4]
    simp (disch := omega) only [many_of N hc, gI, uI, cI_of, aI_of, sI_of, mnI_of, mxI_of, abI_of, dvI_of, rmI_of, bI_of, bV_of, rI, rV, rL, rP, rT, rZ_of, rC_of, if_pos, if_neg, if_true, if_false]
    rw [ih N (i + 1) _ (by omega) (by omega) (by omega), e]
    rfl
theorem sumM_of (N : Nat) (hc : CvM S 8 n s z) (h0 : 0 ≤ n) (hn : n ≤ 48) (hN : 100 ≤ N) : f_X11_sumOf N S = some (sumF s n.toNat 0 0, S) :=
  sumM_loop hc hn n.toNat N 0 0 (by omega) (by omega) (by omega)
abbrev is22 : Nat → Prop := fun j => j = 22
abbrev is8 : Nat → Prop := fun j => j = 8
abbrev is8_22 : Nat → Prop := fun j => j = 8 ∨ j = 22
/-- a frame that leaves the log (row 8 from 50 on) as it is -/
def FrL (A : Nat → Prop) (S S' : S2) : Prop := Fr A S S' ∧ ∀ k, 50 ≤ k → S'.1 8 k = S.1 8 k
theorem FrL.refl {A : Nat → Prop} {S : S2} : FrL A S S := ⟨Fr.refl, fun _ _ => rfl⟩
theorem FrL.trans {A B C : Nat → Prop} {S S' S'' : S2} (h : FrL A S S') (g : FrL B S' S'') (hA : ∀ j, A j → C j) (hB : ∀ j, B j → C j) : FrL C S S'' := ⟨h.1.trans g.1 hA hB, fun k hk => (g.2 k hk).trans (h.2 k hk)⟩
theorem FrL.pI {A : Nat → Prop} {S S' : S2} {i : Nat} {k v : Int} (h : FrL A S S') (hi : A i) (hk : k < 50) : FrL A S (pI S' i k v) := ⟨h.1.pI hi, fun x hx => by
  by_cases e : i = 8
  · subst e; rw [pI_idx (by omega)]; exact h.2 x hx
  · rw [pI_cell (fun q => e q.symm)]; exact h.2 x hx⟩
theorem FrL.of22 {A : Nat → Prop} {S S' : S2} (h : Fr A S S') (h8 : ¬ A 8) : FrL A S S' := ⟨h, fun k _ => h.at h8 k⟩
theorem keepWas_loop : ∀ (d N : Nat) (i : Int) (S : S2), 0 ≤ i → i + d = 48 → d < N → ∃ S', f_X11_keepWas_2 N i S = some S' ∧ (∀ j, i ≤ j → j < 48 → S'.1 22 j = S.1 8 j) ∧ (∀ j, j < i → S'.1 22 j = S.1 22 j) ∧ Fr is22 S S' := by
  intro d
  induction d with
  | zero =>
    intro N i S h0 hi hN
    obtain ⟨N, rfl⟩ : ∃ M, N = M + 1 := ⟨N - 1, by omega⟩
    refine ⟨S, ?_, fun j a b => by omega, fun _ _ => rfl, Fr.refl⟩
    rw [f_X11_keepWas_2]
    simp (disch := omega) only [gI, uI, cI_of, aI_of, sI_of, mnI_of, mxI_of, abI_of, dvI_of, rmI_of, bI_of, bV_of, rI, rV, rL, rP, rT, rZ_of, rC_of, if_pos, if_neg, if_true, if_false]
  | succ d ih =>
    intro N i S h0 hi hN
    obtain ⟨N, rfl⟩ : ∃ M, N = M + 1 := ⟨N - 1, by omega⟩
    obtain ⟨S', e1, e2, e3, e4⟩ := ih N (i + 1) (pI S 22 i (S.1 8 i)) (by omega) (by omega) (by omega)
    refine ⟨S', ?_, fun j a b => ?_, fun j a => ?_, (Fr.refl.pI (A := is22) rfl).trans e4 (fun _ h => h) (fun _ h => h)⟩
    · rw [f_X11_keepWas_2]
      simp (disch := omega) only [gI, uI, cI_of, aI_of, sI_of, mnI_of, mxI_of, abI_of, dvI_of, rmI_of, bI_of, bV_of, rI, rV, rL, rP, rT, rZ_of, rC_of, if_pos, if_neg, if_true, if_false]
      exact e1
    · by_cases h : j = i
      · rw [e3 j (by omega), h, pI_eq]
      · rw [e2 j (by omega) b, pI_cell (by decide)]
    · rw [e3 j (by omega), pI_idx (by omega)]
theorem keepWas_of (N : Nat) (hc : CvM S 8 n s z) (hn : n ≤ 48) (hN : 100 ≤ N) : ∃ S', f_X11_keepWas N S = some S' ∧ WasM S' n s ∧ CvM S' 8 n s z ∧ Fr is22 S S' := by
  obtain ⟨S', e1, e2, e3, e4⟩ := keepWas_loop 48 N 0 S (by omega) (by omega) (by omega)
  exact ⟨S', e1, fun j a b => (e2 j a (by omega)).trans (hc.2.2 j a b), hc.kept e4 (by decide), e4⟩
theorem layM_next {t : Int → Int} {i : Int} (hc : CvM S 8 n (fun j => if j < i then t j else s j) z) (hi : i < 48) : CvM (pI S 8 i (t i)) 8 n (fun j => if j < i + 1 then t j else s j) z := (hc.put (t i) hi).congr (fun j p q => by
  by_cases hj : j = i
  · rw [if_pos hj, if_pos (by omega), hj]
  · rw [if_neg hj]
    by_cases hk : j < i
    · rw [if_pos hk, if_pos (by omega)]
    · rw [if_neg hk, if_neg (by omega)])
theorem WasM.kept {A : Nat → Prop} {S' : S2} (h : WasM S n s) (f : Fr A S S') (h1 : ¬ A 22) : WasM S' n s := fun j a b => by rw [f.2 _ h1]; exact h j a b
theorem middleM_of (N : Nat) {a b d : Int} (h1 : 0 ≤ a) (h2 : a ≤ 999) (h3 : 0 ≤ b) (h4 : b ≤ 999) (h5 : 0 ≤ d) (h6 : d ≤ 999) : f_X11_middle N S a b d = some (midI a b d, S) := by
  unfold f_X11_middle
  simp (disch := omega) only [gI, uI, cI_of, aI_of, sI_of, mnI_of, mxI_of, abI_of, dvI_of, rmI_of, bI_of, bV_of, rI, rV, rL, rP, rT, rZ_of, rC_of, if_pos, if_neg, if_true, if_false]
  rfl
theorem blendsM_loop {m : Int} (hb : CvB n s) (hn : n ≤ 48) (hm : m = 0 ∨ m = 1) : ∀ (d N : Nat) (i : Int) (S : S2), 0 ≤ i → i + d = n → d < N → WasM S n s → CvM S 8 n (fun j => if j < i then blS m s n j else s j) z → ∃ S', f_X11_blends_6 N m i S = some S' ∧ CvM S' 8 n (blS m s n) z ∧ FrL is8 S S' := by
  intro d
  induction d with
  | zero =>
    intro N i S h0 hi hN hwas hc
    obtain ⟨N, rfl⟩ : ∃ M, N = M + 1 := ⟨N - 1, by omega⟩
    refine ⟨S, ?_, hc.congr (fun j a b => if_pos (by omega)), FrL.refl⟩
    rw [f_X11_blends_6]
    simp (disch := omega) only [many_of N hc, gI, uI, cI_of, aI_of, sI_of, mnI_of, mxI_of, abI_of, dvI_of, rmI_of, bI_of, bV_of, rI, rV, rL, rP, rT, rZ_of, rC_of, if_pos, if_neg, if_true, if_false]
  | succ d ih =>
    intro N i S h0 hi hN hwas hc
    obtain ⟨N, rfl⟩ : ∃ M, N = M + 1 := ⟨N - 1, by omega⟩
    have g1 := hb (max 0 (i - 1)) (by omega) (by omega)
    have g2 := hb i h0 (by omega)
    have g3 := hb (min (n - 1) (i + 1)) (by omega) (by omega)
    have w1 := hwas (max 0 (i - 1)) (by omega) (by omega)
    have w2 := hwas i h0 (by omega)
    have w3 := hwas (min (n - 1) (i + 1)) (by omega) (by omega)
    have fr : FrL is8 S (pI S 8 i (blS m s n i)) := FrL.refl.pI rfl (by omega)
    obtain ⟨S', e1, e2, e3⟩ := ih N (i + 1) (pI S 8 i (blS m s n i)) (by omega) (by omega) (by omega) (hwas.kept fr.1 (by decide)) (layM_next hc (by omega))
    refine ⟨S', ?_, e2, fr.trans e3 (fun _ h => h) (fun _ h => h)⟩
    rw [f_X11_blends_6]
    rcases hm with rfl | rfl
    · simp (disch := omega) only [many_of N hc, w1, w2, w3, f_X11_blends_85, gI, uI, cI_of, aI_of, sI_of, mnI_of, mxI_of, abI_of, dvI_of, rmI_of, bI_of, bV_of, rI, rV, rL, rP, rT, rZ_of, rC_of, if_pos, if_neg, if_true, if_false]
      exact e1
    · simp (disch := omega) only [many_of N hc, w1, w2, w3, f_X11_blends_85, middleM_of N g1.1 g1.2 g2.1 g2.2 g3.1 g3.2, gI, uI, cI_of, aI_of, sI_of, mnI_of, mxI_of, abI_of, dvI_of, rmI_of, bI_of, bV_of, rI, rV, rL, rP, rT, rZ_of, rC_of, if_pos, if_neg, if_true, if_false]
      exact e1
theorem blendsM_of (N : Nat) {m : Int} (hc : CvM S 8 n s z) (hb : CvB n s) (h0 : 0 ≤ n) (hn : n ≤ 48) (hm : m = 0 ∨ m = 1) (hN : 100 ≤ N) : ∃ S', f_X11_blends N S m = some S' ∧ CvM S' 8 n (blS m s n) z ∧ FrL is8_22 S S' := by
  obtain ⟨S1, a1, a2, a3, a4⟩ := keepWas_of N hc hn hN
  obtain ⟨S', e1, e2, e3⟩ := blendsM_loop (z := z) hb hn hm n.toNat N 0 S1 (by omega) (by omega) (by omega) a2 (a3.congr (fun j a b => by rw [if_neg (by omega)]))
  refine ⟨S', ?_, e2, (FrL.of22 a4 (by decide)).trans e3 (fun _ h => Or.inr h) (fun _ h => Or.inl h)⟩
  unfold f_X11_blends
  simp (disch := omega) only [a1, gI, uI, cI_of, aI_of, sI_of, mnI_of, mxI_of, abI_of, dvI_of, rmI_of, bI_of, bV_of, rI, rV, rL, rP, rT, rZ_of, rC_of, if_pos, if_neg, if_true, if_false]
  exact e1
theorem fell_loop {t : Int → Int} (hc : CvM S 8 n t z) (hw : WasM S n s) (hb : CvB n s) (ht : CvB n t) (hn : n ≤ 48) : ∀ (d N : Nat) (i r : Int), 0 ≤ i → i + d = n → d < N → f_X11_fell_4 N r i S = some (cntF (fun i => t i < s i) d i r, S) := by
  intro d
  induction d with
  | zero =>
    intro N i r h0 hi hN
    obtain ⟨N, rfl⟩ : ∃ M, N = M + 1 := ⟨N - 1, by omega⟩
    rw [f_X11_fell_4]
    simp (disch := omega) only [many_of N hc, gI, uI, cI_of, aI_of, sI_of, mnI_of, mxI_of, abI_of, dvI_of, rmI_of, bI_of, bV_of, rI, rV, rL, rP, rT, rZ_of, rC_of, if_pos, if_neg, if_true, if_false]
    rfl
  | succ d ih =>
    intro N i r h0 hi hN
    obtain ⟨N, rfl⟩ : ∃ M, N = M + 1 := ⟨N - 1, by omega⟩
    have e := hc.2.2 i h0 (by omega)
    have w := hw i h0 (by omega)
    have g1 := hb i h0 (by omega)
    have g2 := ht i h0 (by omega)
    rw [f_X11_fell_4]
    show _ = some (cntF (fun i => t i < s i) d (i + 1) (if t i < s i then r + 1 else r), S)
    by_cases h : t i < s i
    · simp (disch := omega) only [many_of N hc, e, w, f_X11_fell_33, gI, uI, cI_of, aI_of, sI_of, mnI_of, mxI_of, abI_of, dvI_of, rmI_of, bI_of, bV_of, rI, rV, rL, rP, rT, rZ_of, rC_of, if_pos, if_neg, if_true, if_false]
      rw [ih N (i + 1) _ (by omega) (by omega) (by omega)]
    · simp (disch := omega) only [many_of N hc, e, w, f_X11_fell_33, gI, uI, cI_of, aI_of, sI_of, mnI_of, mxI_of, abI_of, dvI_of, rmI_of, bI_of, bV_of, rI, rV, rL, rP, rT, rZ_of, rC_of, if_pos, if_neg, if_true, if_false]
      rw [ih N (i + 1) _ (by omega) (by omega) (by omega), Int.add_zero]
theorem fell_of (N : Nat) {t : Int → Int} (hc : CvM S 8 n t z) (hw : WasM S n s) (hb : CvB n s) (ht : CvB n t) (h0 : 0 ≤ n) (hn : n ≤ 48) (hN : 100 ≤ N) : f_X11_fell N S = some (cntF (fun i => t i < s i) n.toNat 0 0, S) :=
  fell_loop hc hw hb ht hn n.toNat N 0 0 (by omega) (by omega) (by omega)
end CURVEM
