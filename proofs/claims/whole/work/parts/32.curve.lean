/-! the class's curve -/
def Fr (A : Nat → Prop) (S S' : S2) : Prop := S'.2 = S.2 ∧ ∀ j, ¬ A j → S'.1 j = S.1 j
theorem Fr.refl {A : Nat → Prop} {S : S2} : Fr A S S := ⟨rfl, fun _ _ => rfl⟩
theorem Fr.trans {A B C : Nat → Prop} {S S' S'' : S2} (h : Fr A S S') (g : Fr B S' S'') (hA : ∀ j, A j → C j) (hB : ∀ j, B j → C j) : Fr C S S'' := ⟨g.1.trans h.1, fun j hj => (g.2 j (fun q => hj (hB j q))).trans (h.2 j (fun q => hj (hA j q)))⟩
theorem Fr.mono {A C : Nat → Prop} {S S' : S2} (h : Fr A S S') (hA : ∀ j, A j → C j) : Fr C S S' := ⟨h.1, fun j hj => h.2 j (fun q => hj (hA j q))⟩
theorem Fr.pI {A : Nat → Prop} {S S' : S2} {i : Nat} {k v : Int} (h : Fr A S S') (hi : A i) : Fr A S (pI S' i k v) := ⟨h.1, fun j hj => (pI_row (fun q => hj (by rw [q]; exact hi))).trans (h.2 j hj)⟩
theorem Fr.pC {A : Nat → Prop} {S S' : S2} {i d : Nat} {sp dp n : Int} (h : Fr A S S') (hi : A d) : Fr A S (pC S' i d sp dp n) := ⟨h.1, fun j hj => (pC_row (fun q => hj (by rw [q]; exact hi))).trans (h.2 j hj)⟩
theorem Fr.at {A : Nat → Prop} {S S' : S2} (h : Fr A S S') {j : Nat} (hj : ¬ A j) (k : Int) : S'.1 j k = S.1 j k := by rw [h.2 j hj]
theorem CvC.kept {A : Nat → Prop} {S S' : S2} {c : Nat} {n z : Int} {s : Int → Int} (h : CvC S c n s z) (f : Fr A S S') (h1 : ¬ A c) (h2 : ¬ A (c + 1)) : CvC S' c n s z := ⟨by rw [f.2 c h1]; exact h.1, by rw [f.2 c h1]; exact h.2.1, fun i a b => by rw [f.2 _ h2]; exact h.2.2 i a b⟩
theorem CvM.kept {A : Nat → Prop} {S S' : S2} {m : Nat} {n z : Int} {s : Int → Int} (h : CvM S m n s z) (f : Fr A S S') (h1 : ¬ A m) : CvM S' m n s z := ⟨by rw [f.2 m h1]; exact h.1, by rw [f.2 m h1]; exact h.2.1, fun i a b => by rw [f.2 _ h1]; exact h.2.2 i a b⟩
section CURVEC
variable {S : S2} {c : Nat} {n z : Int} {s : Int → Int}
theorem has_of (N : Nat) (hc : CvC S c n s z) (h0 : 0 ≤ n) (hn : n ≤ 48) {x : Int} (h1 : -2147483648 ≤ x) (h2 : x ≤ 2147483647) : f_X0_has N S c x = some (if 0 ≤ x ∧ x < n then 1 else 0, S) := by
  have hcn := hc.1
  unfold f_X0_has
  by_cases a : x < 0
  · simp (disch := omega) only [gI, uI, cI_of, aI_of, sI_of, mnI_of, mxI_of, abI_of, dvI_of, rmI_of, bI_of, bV_of, rI, rV, rL, rP, rT, rZ_of, rC_of, if_pos, if_neg]
  · by_cases b : n ≤ x
    · simp (disch := omega) only [gI, uI, cI_of, aI_of, sI_of, mnI_of, mxI_of, abI_of, dvI_of, rmI_of, bI_of, bV_of, rI, rV, rL, rP, rT, rZ_of, rC_of, if_pos, if_neg]
    · simp (disch := omega) only [gI, uI, cI_of, aI_of, sI_of, mnI_of, mxI_of, abI_of, dvI_of, rmI_of, bI_of, bV_of, rI, rV, rL, rP, rT, rZ_of, rC_of, if_pos, if_neg]
theorem has_y (N : Nat) (hc : CvC S c n s z) (hn : n ≤ 48) {x : Int} (h1 : 0 ≤ x) (h2 : x < n) : f_X0_has N S c x = some (1, S) := by
  rw [has_of N hc (by omega) hn (by omega) (by omega), if_pos ⟨h1, h2⟩]
theorem has_n (N : Nat) (hc : CvC S c n s z) (h0 : 0 ≤ n) (hn : n ≤ 48) {x : Int} (h1 : -2147483648 ≤ x) (h2 : x ≤ 2147483647) (h3 : x < 0 ∨ n ≤ x) : f_X0_has N S c x = some (0, S) := by
  rw [has_of N hc h0 hn h1 h2, if_neg (by omega)]
theorem leastSample_of (N : Nat) (hc : CvC S c n s z) (hb : CvB n s) (h0 : 0 ≤ n) (hn : n ≤ 48) (hN : 100 ≤ N) : f_X0_leastSample N S c = some (minF s n.toNat 0 999, S) :=
  leastSample_loop hc hb hn n.toNat N 0 999 (by omega) (by omega) (by omega) (by omega) (by omega)
theorem greatestSample_loop (hc : CvC S c n s z) (hb : CvB n s) (hn : n ≤ 48) : ∀ (d N : Nat) (i a : Int), 0 ≤ i → i + d = n → d < N → 0 ≤ a → a ≤ 999 → f_X0_greatestSample_4 c N a i S = some (maxF s d i a, S) := by
  intro d
  induction d with
  | zero =>
    intro N i a h0 hi hN ha1 ha2
    obtain ⟨N, rfl⟩ : ∃ M, N = M + 1 := ⟨N - 1, by omega⟩
    have hcn := hc.1
    rw [f_X0_greatestSample_4]
    simp (disch := omega) only [gI, uI, cI_of, aI_of, sI_of, mnI_of, mxI_of, abI_of, dvI_of, rmI_of, bI_of, bV_of, rI, rV, rL, rP, rT, rZ_of, rC_of, if_pos, if_neg]
    rfl
  | succ d ih =>
    intro N i a h0 hi hN ha1 ha2
    obtain ⟨N, rfl⟩ : ∃ M, N = M + 1 := ⟨N - 1, by omega⟩
    have hcn := hc.1
    have e := hc.2.2 i h0 (by omega)
    have hb1 := hb i h0 (by omega)
    rw [f_X0_greatestSample_4]
    simp (disch := omega) only [gI, uI, cI_of, aI_of, sI_of, mnI_of, mxI_of, abI_of, dvI_of, rmI_of, bI_of, bV_of, rI, rV, rL, rP, rT, rZ_of, rC_of, if_pos, if_neg]
    rw [ih N (i + 1) _ (by omega) (by omega) (by omega) (by omega) (by omega), e]
    rfl
theorem greatestSample_of (N : Nat) (hc : CvC S c n s z) (hb : CvB n s) (h0 : 0 ≤ n) (hn : n ≤ 48) (hN : 100 ≤ N) : f_X0_greatestSample N S c = some (maxF s n.toNat 0 0, S) :=
  greatestSample_loop hc hb hn n.toNat N 0 0 (by omega) (by omega) (by omega) (by omega) (by omega)
theorem sumOfSamples_loop (hc : CvC S c n s z) (hn : n ≤ 48) : ∀ (d N : Nat) (i a : Int), 0 ≤ i → i + d = n → d < N → f_X0_sumOfSamples_4 c N a i S = some (sumF s d i a, S) := by
  intro d
  induction d with
  | zero =>
    intro N i a h0 hi hN
    obtain ⟨N, rfl⟩ : ∃ M, N = M + 1 := ⟨N - 1, by omega⟩
    have hcn := hc.1
    rw [f_X0_sumOfSamples_4]
    simp (disch := omega) only [gI, uI, cI_of, aI_of, sI_of, mnI_of, mxI_of, abI_of, dvI_of, rmI_of, bI_of, bV_of, rI, rV, rL, rP, rT, rZ_of, rC_of, if_pos, if_neg]
    rfl
  | succ d ih =>
    intro N i a h0 hi hN
    obtain ⟨N, rfl⟩ : ∃ M, N = M + 1 := ⟨N - 1, by omega⟩
    have hcn := hc.1
    have e := hc.2.2 i h0 (by omega)
    rw [f_X0_sumOfSamples_4]
    simp (disch := omega) only [gI, uI, cI_of, aI_of, sI_of, mnI_of, mxI_of, abI_of, dvI_of, rmI_of, bI_of, bV_of, rI, rV, rL, rP, rT, rZ_of, rC_of, if_pos, if_neg]
    rw [ih N (i + 1) _ (by omega) (by omega) (by omega), e]
    rfl
theorem sumOfSamples_of (N : Nat) (hc : CvC S c n s z) (h0 : 0 ≤ n) (hn : n ≤ 48) (hN : 100 ≤ N) : f_X0_sumOfSamples N S c = some (sumF s n.toNat 0 0, S) :=
  sumOfSamples_loop hc hn n.toNat N 0 0 (by omega) (by omega) (by omega)
/-- the first least place from a on, d places further -/
def lpF (s : Int → Int) (d : Nat) (i a : Int) : Int := fld (fun a i => if s i < s a then i else a) d i a
theorem lpF_in {s : Int → Int} {lo : Int} : ∀ (d : Nat) (i a : Int), lo ≤ a → a < i → lo ≤ lpF s d i a ∧ lpF s d i a < i + d := by
  intro d
  induction d with
  | zero => intro i a h1 h2; exact ⟨h1, by show a < i + 0; omega⟩
  | succ d ih =>
    intro i a h1 h2
    show lo ≤ lpF s d (i + 1) (if s i < s a then i else a) ∧ lpF s d (i + 1) (if s i < s a then i else a) < i + ((d + 1 : Nat) : Int)
    by_cases h : s i < s a
    · rw [if_pos h]; have := ih (i + 1) i (by omega) (by omega); omega
    · rw [if_neg h]; have := ih (i + 1) a (by omega) (by omega); omega
theorem leastPlace_loop (hc : CvC S c n s z) (hb : CvB n s) (hn : n ≤ 48) : ∀ (d N : Nat) (i a to : Int), 0 ≤ a → a < i → i + d = to + 1 → to < n → d < N → a < n → f_X0_leastPlace_7 c N to a i S = some (lpF s d i a, S) := by
  intro d
  induction d with
  | zero =>
    intro N i a to h0 hi hN ha1 ha2 ha3
    obtain ⟨N, rfl⟩ : ∃ M, N = M + 1 := ⟨N - 1, by omega⟩
    rw [f_X0_leastPlace_7]
    simp (disch := omega) only [gI, uI, cI_of, aI_of, sI_of, mnI_of, mxI_of, abI_of, dvI_of, rmI_of, bI_of, bV_of, rI, rV, rL, rP, rT, rZ_of, rC_of, if_pos, if_neg]
    rfl
  | succ d ih =>
    intro N i a to h0 hi hN ha1 ha2 ha3
    obtain ⟨N, rfl⟩ : ∃ M, N = M + 1 := ⟨N - 1, by omega⟩
    have e1 := hc.2.2 i (by omega) (by omega)
    have e2 := hc.2.2 a (by omega) (by omega)
    have hb1 := hb i (by omega) (by omega)
    have hb2 := hb a (by omega) (by omega)
    rw [f_X0_leastPlace_7]
    show _ = some (lpF s d (i + 1) (if s i < s a then i else a), S)
    by_cases h : s i < s a
    · simp (disch := omega) only [has_y N hc hn, f_X0_leastPlace_49, gI, uI, cI_of, aI_of, sI_of, mnI_of, mxI_of, abI_of, dvI_of, rmI_of, bI_of, bV_of, rI, rV, rL, rP, rT, rZ_of, rC_of, if_pos, if_neg]
      rw [ih N (i + 1) i to (by omega) (by omega) (by omega) (by omega) (by omega) (by omega)]
    · simp (disch := omega) only [has_y N hc hn, f_X0_leastPlace_49, gI, uI, cI_of, aI_of, sI_of, mnI_of, mxI_of, abI_of, dvI_of, rmI_of, bI_of, bV_of, rI, rV, rL, rP, rT, rZ_of, rC_of, if_pos, if_neg]
      rw [ih N (i + 1) a to (by omega) (by omega) (by omega) (by omega) (by omega) (by omega)]
theorem leastPlace_of (N : Nat) (hc : CvC S c n s z) (hb : CvB n s) (hn : n ≤ 48) {a to : Int} (h0 : 0 ≤ a) (h1 : a < n) (h2 : to < n) (h3 : a ≤ to + 1) (hN : 100 ≤ N) : f_X0_leastPlace N S c a to = some (lpF s (to - a).toNat (a + 1) a, S) := by
  unfold f_X0_leastPlace
  by_cases h : a ≤ to
  · exact leastPlace_loop hc hb hn (to - a).toNat N (a + 1) a to h0 (by omega) (by omega) h2 (by omega) h1
  · obtain ⟨N, rfl⟩ : ∃ M, N = M + 1 := ⟨N - 1, by omega⟩
    rw [f_X0_leastPlace_7]
    simp (disch := omega) only [gI, uI, cI_of, aI_of, sI_of, mnI_of, mxI_of, abI_of, dvI_of, rmI_of, bI_of, bV_of, rI, rV, rL, rP, rT, rZ_of, rC_of, if_pos, if_neg]
    rw [show (to - a).toNat = 0 by omega]
    rfl
/-- how far down from d samples are no less than h -/
def rsF (s : Int → Int) (h : Int) : Nat → Int
  | 0 => 0
  | d + 1 => if s d < h then (d : Int) + 1 else rsF s h d
theorem rsF_in {s : Int → Int} {h : Int} : ∀ d : Nat, 0 ≤ rsF s h d ∧ rsF s h d ≤ d
  | 0 => ⟨Int.le_refl 0, Int.le_refl 0⟩
  | d + 1 => by
    rw [rsF]
    by_cases a : s d < h
    · rw [if_pos a]; omega
    · rw [if_neg a]; have := rsF_in (s := s) (h := h) d; omega
theorem runStart_loop (hc : CvC S c n s z) (hb : CvB n s) (hn : n ≤ 48) {h : Int} (h1 : -2147483648 ≤ h) (h2 : h ≤ 2147483647) : ∀ (d N : Nat) (x : Int), x = d → x ≤ n → d < N → f_X0_runStart_2 c N h x S = some (rsF s h d, S) := by
  intro d
  induction d with
  | zero =>
    intro N x hx hd hN
    obtain ⟨N, rfl⟩ : ∃ M, N = M + 1 := ⟨N - 1, by omega⟩
    have hx : x = 0 := hx
    subst hx
    rw [f_X0_runStart_2]
    simp (disch := omega) only [gI, uI, cI_of, aI_of, sI_of, mnI_of, mxI_of, abI_of, dvI_of, rmI_of, bI_of, bV_of, rI, rV, rL, rP, rT, rZ_of, rC_of, if_pos, if_neg]
    rfl
  | succ d ih =>
    intro N x hx hd hN
    obtain ⟨N, rfl⟩ : ∃ M, N = M + 1 := ⟨N - 1, by omega⟩
    have hcn := hc.1
    have ed : x - 1 = (d : Int) := by omega
    have e := hc.2.2 (x - 1) (by omega) (by omega)
    have hb1 := hb (x - 1) (by omega) (by omega)
    rw [f_X0_runStart_2, rsF, ← ed]
    by_cases a : s (x - 1) < h
    · simp (disch := omega) only [gI, uI, cI_of, aI_of, sI_of, mnI_of, mxI_of, abI_of, dvI_of, rmI_of, bI_of, bV_of, rI, rV, rL, rP, rT, rZ_of, rC_of, if_pos, if_neg]
      rw [show x - 1 + 1 = x by omega]
    · simp (disch := omega) only [gI, uI, cI_of, aI_of, sI_of, mnI_of, mxI_of, abI_of, dvI_of, rmI_of, bI_of, bV_of, rI, rV, rL, rP, rT, rZ_of, rC_of, if_pos, if_neg]
      rw [ih N (x + (-1)) (by omega) (by omega) (by omega)]
theorem runStart_of (N : Nat) (hc : CvC S c n s z) (hb : CvB n s) (hn : n ≤ 48) {h x : Int} (h1 : -2147483648 ≤ h) (h2 : h ≤ 2147483647) (h3 : 0 ≤ x) (h4 : x ≤ n) (hN : 100 ≤ N) : f_X0_runStart N S c x h = some (rsF s h x.toNat, S) := by
  exact runStart_loop hc hb hn h1 h2 x.toNat N x (by omega) h4 (by omega)
def reF (s : Int → Int) (h : Int) : Nat → Int → Int
  | 0, x => x
  | d + 1, x => if s (x + 1) < h then x else reF s h d (x + 1)
theorem reF_in {s : Int → Int} {h : Int} : ∀ (d : Nat) (x : Int), x ≤ reF s h d x ∧ reF s h d x ≤ x + d
  | 0, x => ⟨Int.le_refl x, by show x ≤ x + 0; omega⟩
  | d + 1, x => by
    rw [reF]
    by_cases a : s (x + 1) < h
    · rw [if_pos a]; omega
    · rw [if_neg a]; have := reF_in (s := s) (h := h) d (x + 1); omega
theorem runEnd_loop (hc : CvC S c n s z) (hb : CvB n s) (hn : n ≤ 48) {h : Int} (h1 : -2147483648 ≤ h) (h2 : h ≤ 2147483647) : ∀ (d N : Nat) (x : Int), 0 ≤ x → x + d = n - 1 → d < N → f_X0_runEnd_2 c N h x S = some (reF s h d x, S) := by
  intro d
  induction d with
  | zero =>
    intro N x h0 hd hN
    obtain ⟨N, rfl⟩ : ∃ M, N = M + 1 := ⟨N - 1, by omega⟩
    have hcn := hc.1
    rw [f_X0_runEnd_2]
    simp (disch := omega) only [gI, uI, cI_of, aI_of, sI_of, mnI_of, mxI_of, abI_of, dvI_of, rmI_of, bI_of, bV_of, rI, rV, rL, rP, rT, rZ_of, rC_of, if_pos, if_neg]
    rfl
  | succ d ih =>
    intro N x h0 hd hN
    obtain ⟨N, rfl⟩ : ∃ M, N = M + 1 := ⟨N - 1, by omega⟩
    have hcn := hc.1
    have e := hc.2.2 (x + 1) (by omega) (by omega)
    have hb1 := hb (x + 1) (by omega) (by omega)
    rw [f_X0_runEnd_2, reF]
    by_cases a : s (x + 1) < h
    · simp (disch := omega) only [gI, uI, cI_of, aI_of, sI_of, mnI_of, mxI_of, abI_of, dvI_of, rmI_of, bI_of, bV_of, rI, rV, rL, rP, rT, rZ_of, rC_of, if_pos, if_neg]
    · simp (disch := omega) only [gI, uI, cI_of, aI_of, sI_of, mnI_of, mxI_of, abI_of, dvI_of, rmI_of, bI_of, bV_of, rI, rV, rL, rP, rT, rZ_of, rC_of, if_pos, if_neg]
      rw [ih N (x + 1) (by omega) (by omega) (by omega)]
theorem runEnd_of (N : Nat) (hc : CvC S c n s z) (hb : CvB n s) (hn : n ≤ 48) {h x : Int} (h1 : -2147483648 ≤ h) (h2 : h ≤ 2147483647) (h3 : 0 ≤ x) (h4 : x < n) (hN : 100 ≤ N) : f_X0_runEnd N S c x h = some (reF s h (n - 1 - x).toNat x, S) :=
  runEnd_loop hc hb hn h1 h2 (n - 1 - x).toNat N x h3 (by omega) (by omega)
end CURVEC
