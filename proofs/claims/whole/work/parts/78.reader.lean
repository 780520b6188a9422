/-! texts: scanning; the class's reader -/
def isLt (c : Int) : Prop := 97 ≤ c ∧ c ≤ 122
def isDg (c : Int) : Prop := 48 ≤ c ∧ c ≤ 57
/-- as long as P holds, d at most from i on -/
noncomputable def scF (P : Int → Prop) (t : Int → Int) : Nat → Int → Int
  | 0, i => i
  | d + 1, i => @ite Int (P (t i)) (Classical.propDecidable _) (scF P t d (i + 1)) i
theorem scF_y {P : Int → Prop} {t : Int → Int} {d : Nat} {i : Int} (h : P (t i)) : scF P t (d + 1) i = scF P t d (i + 1) := by
  rw [scF, if_pos h]
theorem scF_n {P : Int → Prop} {t : Int → Int} {d : Nat} {i : Int} (h : ¬ P (t i)) : scF P t (d + 1) i = i := by
  rw [scF, if_neg h]
theorem scF_in {P : Int → Prop} {t : Int → Int} : ∀ (d : Nat) (i : Int), (i ≤ scF P t d i ∧ scF P t d i ≤ i + d) ∧ (∀ j, i ≤ j → j < scF P t d i → P (t j)) ∧ (scF P t d i < i + d → ¬ P (t (scF P t d i)))
  | 0, i => ⟨⟨Int.le_refl i, by show i ≤ i + 0; omega⟩, fun j a b => by have b : j < i := b; omega, fun h => by have h : i < i + 0 := h; omega⟩
  | d + 1, i => by
    by_cases g : P (t i)
    · rw [scF_y g]
      obtain ⟨h1, h2, h3⟩ := scF_in (P := P) (t := t) d (i + 1)
      refine ⟨by omega, fun j a b => ?_, fun h => h3 (by omega)⟩
      by_cases e : j = i
      · rw [e]; exact g
      · exact h2 j (by omega) b
    · rw [scF_n g]
      exact ⟨by omega, fun j a b => by omega, fun _ => g⟩
noncomputable def bk (t : Int → Int) (L i : Int) : Int := scF (fun c => c = 32) t (L - i).toNat i
noncomputable def we (t : Int → Int) (L i : Int) : Int := scF isLt t (L - i).toNat i
noncomputable def de (t : Int → Int) (L i : Int) : Int := scF isDg t (L - i).toNat i
/-- the number of d digits from i on -/
def dcF (t : Int → Int) : Nat → Int → Int → Int
  | 0, _, v => v
  | d + 1, i, v => dcF t d (i + 1) (v * 10 + (t i - 48))
def chT (t : Int → Int) (L i : Int) : Int := if 0 ≤ i ∧ i < L then t i else 0
/-- cell 1 changes in the fields F alone -/
def FrR (F : Int → Prop) (S S' : S2) : Prop := S'.2 = S.2 ∧ (∀ j, j ≠ 1 → S'.1 j = S.1 j) ∧ (∀ k, ¬ F k → S'.1 1 k = S.1 1 k)
theorem FrR.refl {F : Int → Prop} {S : S2} : FrR F S S := ⟨rfl, fun _ _ => rfl, fun _ _ => rfl⟩
theorem FrR.trans {F G K : Int → Prop} {S S' S'' : S2} (h : FrR F S S') (g : FrR G S' S'') (hF : ∀ k, F k → K k) (hG : ∀ k, G k → K k) : FrR K S S'' := ⟨g.1.trans h.1, fun j hj => (g.2.1 j hj).trans (h.2.1 j hj), fun k hk => (g.2.2 k (fun q => hk (hG k q))).trans (h.2.2 k (fun q => hk (hF k q)))⟩
theorem FrR.w {F : Int → Prop} {S S' : S2} {k v : Int} (h : FrR F S S') (hk : F k) : FrR F S (pI S' 1 k v) := ⟨h.1, fun j hj => (pI_row hj).trans (h.2.1 j hj), fun x hx => (pI_idx (fun q => hx (by rw [q]; exact hk))).trans (h.2.2 x hx)⟩
/-- the tape that is read -/
def RdT (S : S2) (L : Int) (t : Int → Int) : Prop := (0 ≤ L ∧ L ≤ 400) ∧ S.1 2 1 = L ∧ (∀ i, 0 ≤ i → i < L → S.1 3 i = t i) ∧ ∀ i, 0 ≤ i → i < L → 1 ≤ t i ∧ t i ≤ 255
section READER
variable {S : S2} {L p : Int} {t : Int → Int}
theorem RdT.r {F : Int → Prop} {S' : S2} (h : RdT S L t) (f : FrR F S S') : RdT S' L t := ⟨h.1, by rw [f.2.1 2 (by decide)]; exact h.2.1, fun i a b => by rw [f.2.1 3 (by decide)]; exact h.2.2.1 i a b, h.2.2.2⟩
theorem chT_in (h : RdT S L t) {i : Int} : 0 ≤ chT t L i ∧ chT t L i ≤ 255 := by
  unfold chT
  by_cases g : 0 ≤ i ∧ i < L
  · rw [if_pos g]; have := h.2.2.2 i g.1 g.2; omega
  · rw [if_neg g]; omega
theorem byteAt_of (N : Nat) (h : RdT S L t) {i : Int} (h1 : -2147483648 ≤ i) (h2 : i ≤ 2147483647) : f_X9_byteAt N S 2 i = some (chT t L i, S) := by
  obtain ⟨hL, e1, e2, e3⟩ := h
  unfold f_X9_byteAt chT gI
  rw [cI_of (by omega) (by omega) (by omega) (by omega)]
  by_cases g : i < 0
  · rw [if_pos g, if_neg (c := 0 ≤ i ∧ i < L) (by omega), rC_of (by omega) (by omega)]
  · rw [if_neg g]
    dsimp only
    rw [e1, cI_of (by omega) (by omega) (by omega) (by omega)]
    by_cases k : i < L
    · have b := e3 i (by omega) k
      rw [if_neg (by omega), if_pos (c := 0 ≤ i ∧ i < L) (by omega), aI_of (by omega) (by omega), e2 i (by omega) k, rC_of (by omega) (by omega)]
    · rw [if_pos (by omega), if_neg (c := 0 ≤ i ∧ i < L) (by omega), rC_of (by omega) (by omega)]
theorem isDigit_y (N : Nat) (h : RdT S L t) {i : Int} (h1 : 0 ≤ i) (h2 : i < L) (g : isDg (t i)) : f_X9_isDigit N S 2 i = some (1, S) := by
  have hL := h.1
  have e : chT t L i = t i := if_pos ⟨h1, h2⟩
  unfold isDg at g
  unfold f_X9_isDigit
  rw [byteAt_of N h (by omega) (by omega), e]
  simp (disch := omega) only [gI, uI, cI_of, aI_of, sI_of, mnI_of, mxI_of, abI_of, dvI_of, rmI_of, bI_of, bV_of, rI, rV, rL, rP, rT, rZ_of, rC_of, if_pos, if_neg, if_true, if_false]
theorem isDigit_n (N : Nat) (h : RdT S L t) {i : Int} (h1 : -2147483648 ≤ i) (h2 : i ≤ 2147483647) (g : ¬ isDg (chT t L i)) : f_X9_isDigit N S 2 i = some (0, S) := by
  have hL := h.1
  have b := chT_in h (i := i)
  unfold isDg at g
  unfold f_X9_isDigit
  rw [byteAt_of N h (by omega) (by omega)]
  by_cases k : chT t L i < 48
  · simp (disch := omega) only [gI, uI, cI_of, aI_of, sI_of, mnI_of, mxI_of, abI_of, dvI_of, rmI_of, bI_of, bV_of, rI, rV, rL, rP, rT, rZ_of, rC_of, if_pos, if_neg, if_true, if_false]
  · simp (disch := omega) only [gI, uI, cI_of, aI_of, sI_of, mnI_of, mxI_of, abI_of, dvI_of, rmI_of, bI_of, bV_of, rI, rV, rL, rP, rT, rZ_of, rC_of, if_pos, if_neg, if_true, if_false]
theorem isLetter_y (N : Nat) (h : RdT S L t) {i : Int} (h1 : 0 ≤ i) (h2 : i < L) (g : isLt (t i)) : f_X9_isLetter N S 2 i = some (1, S) := by
  have hL := h.1
  have e : chT t L i = t i := if_pos ⟨h1, h2⟩
  unfold isLt at g
  unfold f_X9_isLetter
  rw [byteAt_of N h (by omega) (by omega), e]
  simp (disch := omega) only [gI, uI, cI_of, aI_of, sI_of, mnI_of, mxI_of, abI_of, dvI_of, rmI_of, bI_of, bV_of, rI, rV, rL, rP, rT, rZ_of, rC_of, if_pos, if_neg, if_true, if_false]
theorem isLetter_n (N : Nat) (h : RdT S L t) {i : Int} (h1 : 0 ≤ i) (h2 : i < L) (g : ¬ isLt (t i)) : f_X9_isLetter N S 2 i = some (0, S) := by
  have hL := h.1
  have b := h.2.2.2 i h1 h2
  have e : chT t L i = t i := if_pos ⟨h1, h2⟩
  unfold isLt at g
  unfold f_X9_isLetter
  rw [byteAt_of N h (by omega) (by omega), e]
  by_cases k : t i < 97
  · simp (disch := omega) only [gI, uI, cI_of, aI_of, sI_of, mnI_of, mxI_of, abI_of, dvI_of, rmI_of, bI_of, bV_of, rI, rV, rL, rP, rT, rZ_of, rC_of, if_pos, if_neg, if_true, if_false]
  · simp (disch := omega) only [gI, uI, cI_of, aI_of, sI_of, mnI_of, mxI_of, abI_of, dvI_of, rmI_of, bI_of, bV_of, rI, rV, rL, rP, rT, rZ_of, rC_of, if_pos, if_neg, if_true, if_false]
theorem chT_at {i : Int} (h1 : 0 ≤ i) (h2 : i < L) : chT t L i = t i := if_pos ⟨h1, h2⟩
abbrev k1 : Int → Prop := fun k => k = 1
theorem skip_loop : ∀ (d N : Nat) (i : Int) (S : S2), 0 ≤ i → i + d = L → d < N → RdT S L t → S.1 1 1 = i → ∃ S', f_X6_skipBlanks_0 1 N S = some S' ∧ S'.1 1 1 = scF (fun c => c = 32) t d i ∧ FrR k1 S S' := by
  intro d
  induction d with
  | zero =>
    intro N i S h0 hi hN h e
    obtain ⟨N, rfl⟩ : ∃ M, N = M + 1 := ⟨N - 1, by omega⟩
    have hL := h.1
    have e2 := h.2.1
    refine ⟨S, ?_, e, FrR.refl⟩
    rw [f_X6_skipBlanks_0]
    simp (disch := omega) only [e, e2, gI, uI, cI_of, aI_of, sI_of, mnI_of, mxI_of, abI_of, dvI_of, rmI_of, bI_of, bV_of, rI, rV, rL, rP, rT, rZ_of, rC_of, if_pos, if_neg, if_true, if_false]
  | succ d ih =>
    intro N i S h0 hi hN h e
    obtain ⟨N, rfl⟩ : ∃ M, N = M + 1 := ⟨N - 1, by omega⟩
    have hL := h.1
    have e2 := h.2.1
    have eb := byteAt_of N h (i := i) (by omega) (by omega)
    rw [chT_at h0 (by omega)] at eb
    have b := h.2.2.2 i h0 (by omega)
    by_cases g : t i = 32
    · have fr : FrR k1 S (pI S 1 1 (i + 1)) := FrR.refl.w rfl
      obtain ⟨S', f1, f2, f3⟩ := ih N (i + 1) (pI S 1 1 (i + 1)) (by omega) (by omega) (by omega) (h.r fr) pI_eq
      refine ⟨S', ?_, by rw [scF_y g]; exact f2, fr.trans f3 (fun _ h => h) (fun _ h => h)⟩
      rw [f_X6_skipBlanks_0]
      simp (disch := omega) only [e, e2, eb, gI, uI, cI_of, aI_of, sI_of, mnI_of, mxI_of, abI_of, dvI_of, rmI_of, bI_of, bV_of, rI, rV, rL, rP, rT, rZ_of, rC_of, if_pos, if_neg, if_true, if_false]
      exact f1
    · refine ⟨S, ?_, by rw [scF_n g]; exact e, FrR.refl⟩
      rw [f_X6_skipBlanks_0]
      simp (disch := omega) only [e, e2, eb, gI, uI, cI_of, aI_of, sI_of, mnI_of, mxI_of, abI_of, dvI_of, rmI_of, bI_of, bV_of, rI, rV, rL, rP, rT, rZ_of, rC_of, if_pos, if_neg, if_true, if_false]
theorem skip_of (N : Nat) (h : RdT S L t) (e : S.1 1 1 = p) (h0 : 0 ≤ p) (h1 : p ≤ L) (hN : 500 ≤ N) : ∃ S', f_X6_skipBlanks N S 1 = some S' ∧ S'.1 1 1 = bk t L p ∧ FrR k1 S S' := by
  have hL := h.1
  exact skip_loop (L - p).toNat N p S h0 (by omega) (by omega) h e
theorem bk_in (h0 : 0 ≤ p) (h1 : p ≤ L) : p ≤ bk t L p ∧ bk t L p ≤ L := by
  have := (scF_in (P := fun c => c = 32) (t := t) (L - p).toNat p).1
  unfold bk; omega
theorem we_in (h0 : 0 ≤ p) (h1 : p ≤ L) : p ≤ we t L p ∧ we t L p ≤ L := by
  have := (scF_in (P := isLt) (t := t) (L - p).toNat p).1
  unfold we; omega
theorem de_in (h0 : 0 ≤ p) (h1 : p ≤ L) : p ≤ de t L p ∧ de t L p ≤ L := by
  have := (scF_in (P := isDg) (t := t) (L - p).toNat p).1
  unfold de; omega
theorem word_loop : ∀ (d N : Nat) (i : Int) (S : S2), 0 ≤ i → i + d = L → d < N → RdT S L t → S.1 1 1 = i → ∃ S', (∀ K, f_X6_readWord_12 1 K N S = K S') ∧ S'.1 1 1 = scF isLt t d i ∧ FrR k1 S S' := by
  intro d
  induction d with
  | zero =>
    intro N i S h0 hi hN h e
    obtain ⟨N, rfl⟩ : ∃ M, N = M + 1 := ⟨N - 1, by omega⟩
    have hL := h.1
    have e2 := h.2.1
    refine ⟨S, fun K => ?_, e, FrR.refl⟩
    rw [f_X6_readWord_12]
    simp (disch := omega) only [e, e2, gI, uI, cI_of, aI_of, sI_of, mnI_of, mxI_of, abI_of, dvI_of, rmI_of, bI_of, bV_of, rI, rV, rL, rP, rT, rZ_of, rC_of, if_pos, if_neg, if_true, if_false]
  | succ d ih =>
    intro N i S h0 hi hN h e
    obtain ⟨N, rfl⟩ : ∃ M, N = M + 1 := ⟨N - 1, by omega⟩
    have hL := h.1
    have e2 := h.2.1
    by_cases g : isLt (t i)
    · have el := isLetter_y N h h0 (by omega) g
      have fr : FrR k1 S (pI S 1 1 (i + 1)) := FrR.refl.w rfl
      obtain ⟨S', f1, f2, f3⟩ := ih N (i + 1) (pI S 1 1 (i + 1)) (by omega) (by omega) (by omega) (h.r fr) pI_eq
      refine ⟨S', fun K => ?_, by rw [scF_y g]; exact f2, fr.trans f3 (fun _ h => h) (fun _ h => h)⟩
      rw [f_X6_readWord_12]
      simp (disch := omega) only [e, e2, el, gI, uI, cI_of, aI_of, sI_of, mnI_of, mxI_of, abI_of, dvI_of, rmI_of, bI_of, bV_of, rI, rV, rL, rP, rT, rZ_of, rC_of, if_pos, if_neg, if_true, if_false]
      exact f1 K
    · have el := isLetter_n N h h0 (by omega) g
      refine ⟨S, fun K => ?_, by rw [scF_n g]; exact e, FrR.refl⟩
      rw [f_X6_readWord_12]
      simp (disch := omega) only [e, e2, el, gI, uI, cI_of, aI_of, sI_of, mnI_of, mxI_of, abI_of, dvI_of, rmI_of, bI_of, bV_of, rI, rV, rL, rP, rT, rZ_of, rC_of, if_pos, if_neg, if_true, if_false]
abbrev kW : Int → Prop := fun k => k = 1 ∨ k = 2 ∨ k = 4 ∨ k = 5
/-- a word is read, or the fault is where it should begin -/
theorem readWordC (N : Nat) (h : RdT S L t) (e : S.1 1 1 = p) (h0 : 0 ≤ p) (h1 : p ≤ L) (hN : 500 ≤ N) : ∃ S', f_X6_readWord N S 1 = some (if bk t L p < we t L (bk t L p) then 1 else 0, S') ∧ S'.1 1 1 = we t L (bk t L p) ∧ S'.1 1 4 = bk t L p ∧ S'.1 1 5 = we t L (bk t L p) - bk t L p ∧ S'.1 1 2 = (if bk t L p < we t L (bk t L p) then S.1 1 2 else bk t L p) ∧ FrR kW S S' := by
  have hL := h.1
  obtain ⟨S1, a1, a2, a3⟩ := skip_of N h e h0 h1 hN
  have b := bk_in (t := t) h0 h1
  have w := we_in (t := t) (p := bk t L p) (L := L) (by omega) b.2
  obtain ⟨f, hf⟩ : ∃ f, f = bk t L p := ⟨_, rfl⟩
  rw [← hf] at a2 b w ⊢
  have fr1 : FrR kW S (pI S1 1 4 f) := (a3.trans FrR.refl (fun _ q => Or.inl q) (fun _ q => q) (K := kW)).w (Or.inr (Or.inr (Or.inl rfl)))
  obtain ⟨S2, b1, b2, b3⟩ := word_loop (L - f).toNat N f (pI S1 1 4 f) (by omega) (by omega) (by omega) (h.r fr1) (by rw [pI_idx (by decide)]; exact a2)
  have b2 : S2.1 1 1 = we t L f := b2
  have e4 : S2.1 1 4 = f := by rw [b3.2.2 4 (by decide), pI_eq]
  have e22 : S2.1 1 2 = S.1 1 2 := by rw [b3.2.2 2 (by decide), pI_idx (by decide), a3.2.2 2 (by decide)]
  have fr2 : FrR kW S S2 := fr1.trans b3 (fun _ q => q) (fun _ q => Or.inl q)
  have e5 : (pI S2 1 5 (we t L f - f)).1 1 5 = we t L f - f := pI_eq
  have e54 : (pI S2 1 5 (we t L f - f)).1 1 4 = f := by rw [pI_idx (by decide)]; exact e4
  have f53 : ∀ y, f_X6_readWord_53 1 N S2 = y ↔ cI (we t L f - f) 0 (if 0 < we t L f - f then (f_X6_readWord_84 1 N) (pI S2 1 5 (we t L f - f)) else bI (f_X6_fail N (pI S2 1 5 (we t L f - f)) 1 f) fun v78 S78 => cI v78 0 (if v78 = 0 then rZ 0 S78 else (f_X6_readWord_84 1 N) S78)) = y := fun y => by
    unfold f_X6_readWord_53 gI uI
    dsimp only
    rw [b2, e4, e5, e54]
  have main : f_X6_readWord N S 1 = f_X6_readWord_53 1 N S2 := by
    unfold f_X6_readWord
    rw [a1, bV_of]
    unfold gI uI
    dsimp only
    rw [a2, b1]
  by_cases g : f < we t L f
  · rw [if_pos g, if_pos g]
    refine ⟨pI S2 1 5 (we t L f - f), ?_, by rw [pI_idx (by decide)]; exact b2, e54, e5, by rw [pI_idx (by decide)]; exact e22, fr2.w (Or.inr (Or.inr (Or.inr rfl)))⟩
    rw [main, f53, cI_of (by omega) (by omega) (by omega) (by omega), if_pos (by omega)]
    unfold f_X6_readWord_84
    rw [rZ_of (Or.inr rfl)]
  · rw [if_neg g, if_neg g]
    refine ⟨pI (pI S2 1 5 (we t L f - f)) 1 2 f, ?_, by rw [pI_idx (by decide), pI_idx (by decide)]; exact b2, by rw [pI_idx (by decide)]; exact e54, by rw [pI_idx (by decide)]; exact e5, pI_eq, (fr2.w (Or.inr (Or.inr (Or.inr rfl)))).w (Or.inr (Or.inl rfl))⟩
    rw [main, f53, cI_of (by omega) (by omega) (by omega) (by omega), if_neg (by omega)]
    unfold f_X6_fail uI
    dsimp only
    rw [rZ_of (Or.inl rfl), bI_of, cI_of (by omega) (by omega) (by omega) (by omega), if_pos rfl, rZ_of (Or.inl rfl)]
abbrev kS : Int → Prop := fun k => k = 1 ∨ k = 2
/-- behind a part: the end, a ; that may stand, or a fault -/
theorem readSemiC (N : Nat) (h : RdT S L t) (e : S.1 1 1 = p) (h0 : 0 ≤ p) (h1 : p ≤ L) {m : Int} (hm : m = 0 ∨ m = 1) (hN : 500 ≤ N) : ∃ r S', f_X6_readSemicolon N S 1 m = some (r, S') ∧ FrR kS S S' ∧ ((L ≤ bk t L p ∧ r = 0 ∧ S'.1 1 2 = S.1 1 2) ∨ (bk t L p < L ∧ t (bk t L p) = 59 ∧ m = 1 ∧ r = 1 ∧ S'.1 1 1 = bk t L p + 1 ∧ S'.1 1 2 = S.1 1 2) ∨ (bk t L p < L ∧ ¬ (t (bk t L p) = 59 ∧ m = 1) ∧ r = 0 ∧ S'.1 1 2 = bk t L p)) := by
  have hL := h.1
  obtain ⟨S1, a1, a2, a3⟩ := skip_of N h e h0 h1 hN
  have b := bk_in (t := t) h0 h1
  have h' := h.r a3
  have fr1 : FrR kS S S1 := a3.trans FrR.refl (fun _ q => Or.inl q) (fun _ q => q)
  obtain ⟨f, hf⟩ : ∃ f, f = bk t L p := ⟨_, rfl⟩
  rw [← hf] at a2 b ⊢
  have e2 := h'.2.1
  have e12 : S1.1 1 2 = S.1 1 2 := a3.2.2 2 (by decide)
  have f40 : f_X6_readSemicolon_40 1 N S1 = some (0, pI S1 1 2 f) := by
    unfold f_X6_readSemicolon_40 gI f_X6_fail uI
    dsimp only
    rw [a2, rZ_of (Or.inl rfl), bI_of, rZ_of (Or.inl rfl)]
  have main : ∀ y, f_X6_readSemicolon N S 1 m = y ↔ cI f L (if f < L then bI (f_X9_byteAt N S1 (1 + 1) f) fun v28 S28 => cI v28 59 (if v28 = 59 then cI m 0 (if m = 0 then (f_X6_readSemicolon_40 1 N) S28 else gI S28 1 1 fun v51 => uI S28 1 1 (v51 + 1) fun S56 => rZ 1 S56) else (f_X6_readSemicolon_40 1 N) S28) else rZ 0 S1) = y := fun y => by
    unfold f_X6_readSemicolon
    rw [a1, bV_of]
    show (gI S1 1 1 fun v5 => gI S1 2 1 fun v12 => _) = y ↔ _
    unfold gI
    dsimp only
    rw [a2, e2]
  by_cases g : f < L
  · have eb := byteAt_of N h' (i := f) (by omega) (by omega)
    rw [chT_at (by omega) g] at eb
    have bb := h'.2.2.2 f (by omega) g
    by_cases k : t f = 59 ∧ m = 1
    · refine ⟨1, pI S1 1 1 (f + 1), ?_, fr1.w (Or.inl rfl), Or.inr (Or.inl ⟨g, k.1, k.2, rfl, pI_eq, by rw [pI_idx (by decide)]; exact e12⟩)⟩
      rw [main, cI_of (by omega) (by omega) (by omega) (by omega), if_pos g, eb, bI_of, cI_of (by omega) (by omega) (by omega) (by omega), if_pos k.1, cI_of (by omega) (by omega) (by omega) (by omega), if_neg (by omega)]
      unfold gI uI
      dsimp only
      rw [a2, rZ_of (Or.inr rfl)]
    · refine ⟨0, pI S1 1 2 f, ?_, fr1.w (Or.inr rfl), Or.inr (Or.inr ⟨g, k, rfl, pI_eq⟩)⟩
      rw [main, cI_of (by omega) (by omega) (by omega) (by omega), if_pos g, eb, bI_of, cI_of (by omega) (by omega) (by omega) (by omega)]
      by_cases k2 : t f = 59
      · rw [if_pos k2, cI_of (by omega) (by omega) (by omega) (by omega), if_pos (by omega)]; exact f40
      · rw [if_neg k2]; exact f40
  · refine ⟨0, S1, ?_, fr1, Or.inl ⟨by omega, rfl, e12⟩⟩
    rw [main, cI_of (by omega) (by omega) (by omega) (by omega), if_neg g, rZ_of (Or.inl rfl)]
abbrev kN : Int → Prop := fun k => k = 1 ∨ k = 3
theorem num_loop {x1 x2 x3 x4 : Int} : ∀ (d N : Nat) (i c v : Int) (S : S2), 0 ≤ i → i + d = L → d < N → RdT S L t → S.1 1 1 = i → S.1 1 3 = v → 0 ≤ c → c + d ≤ 400 → ∃ S' v', (∀ K, f_X6_readNumber_59 1 K N x1 x2 x3 x4 c S = K x1 x2 x3 x4 (c + (scF isDg t d i - i)) S') ∧ S'.1 1 1 = scF isDg t d i ∧ S'.1 1 3 = v' ∧ (c + (scF isDg t d i - i) ≤ 3 → v' = dcF t (scF isDg t d i - i).toNat i v) ∧ FrR kN S S' := by
  intro d
  induction d with
  | zero =>
    intro N i c v S h0 hi hN h e e3 c0 c4
    obtain ⟨N, rfl⟩ : ∃ M, N = M + 1 := ⟨N - 1, by omega⟩
    have hL := h.1
    have e2 := h.2.1
    have es : scF isDg t 0 i = i := rfl
    refine ⟨S, v, fun K => ?_, e, e3, fun _ => by rw [es, show (i - i).toNat = 0 by omega]; rfl, FrR.refl⟩
    rw [f_X6_readNumber_59, es, show c + (i - i) = c by omega]
    simp (disch := omega) only [e, e2, gI, uI, cI_of, aI_of, sI_of, mnI_of, mxI_of, abI_of, dvI_of, rmI_of, bI_of, bV_of, rI, rV, rL, rP, rT, rZ_of, rC_of, if_pos, if_neg, if_true, if_false]
  | succ d ih =>
    intro N i c v S h0 hi hN h e e3 c0 c4
    obtain ⟨N, rfl⟩ : ∃ M, N = M + 1 := ⟨N - 1, by omega⟩
    have hL := h.1
    have e2 := h.2.1
    have inn := (scF_in (P := isDg) (t := t) d (i + 1)).1
    by_cases g : isDg (t i)
    · have ed := isDigit_y N h h0 (by omega) g
      have eb := byteAt_of N h (i := i) (by omega) (by omega)
      rw [chT_at h0 (by omega)] at eb
      rw [scF_y g]
      obtain ⟨v1, hv1⟩ : ∃ v1, v1 = (if 3 < c + 1 then v else v * 10 + (t i - 48)) := ⟨_, rfl⟩
      have step : ∀ S1, FrR kN S S1 → S1.1 1 1 = i → S1.1 1 3 = v1 → ∃ S' v', (∀ K, f_X6_readNumber_122 1 (f_X6_readNumber_59 1 K N) N x1 x2 x3 x4 (c + 1) S1 = K x1 x2 x3 x4 (c + (scF isDg t d (i + 1) - i)) S') ∧ S'.1 1 1 = scF isDg t d (i + 1) ∧ S'.1 1 3 = v' ∧ (c + (scF isDg t d (i + 1) - i) ≤ 3 → v' = dcF t (scF isDg t d (i + 1) - i).toNat i v) ∧ FrR kN S S' := fun S1 fr q1 q3 => by
        have fr2 : FrR kN S (pI S1 1 1 (i + 1)) := fr.w (Or.inl rfl)
        obtain ⟨S', v', f1, f2, f3, f4, f5⟩ := ih N (i + 1) (c + 1) v1 (pI S1 1 1 (i + 1)) (by omega) (by omega) (by omega) (h.r fr2) pI_eq (by rw [pI_idx (by decide)]; exact q3) (by omega) (by omega)
        rw [show c + 1 + (scF isDg t d (i + 1) - (i + 1)) = c + (scF isDg t d (i + 1) - i) by omega] at f1 f4
        refine ⟨S', v', fun K => ?_, f2, f3, fun q => ?_, fr2.trans f5 (fun _ h => h) (fun _ h => h)⟩
        · rw [f_X6_readNumber_122]
          unfold gI uI
          dsimp only
          rw [q1]; exact f1 K
        · rw [f4 q, hv1, if_neg (by omega)]
          obtain ⟨m, hm⟩ : ∃ m, (scF isDg t d (i + 1) - i).toNat = m + 1 := ⟨(scF isDg t d (i + 1) - i).toNat - 1, by omega⟩
          rw [hm, dcF, show (scF isDg t d (i + 1) - (i + 1)).toNat = m by omega]
      by_cases k : 3 < c + 1
      · rw [if_pos k] at hv1
        obtain ⟨S', v', f1, f2, f3, f4, f5⟩ := step S FrR.refl e (by rw [hv1]; exact e3)
        refine ⟨S', v', fun K => ?_, f2, f3, f4, f5⟩
        rw [f_X6_readNumber_59]
        simp (disch := omega) only [e, e2, ed, gI, uI, cI_of, aI_of, sI_of, mnI_of, mxI_of, abI_of, dvI_of, rmI_of, bI_of, bV_of, rI, rV, rL, rP, rT, rZ_of, rC_of, if_pos, if_neg, if_true, if_false]
        exact f1 K
      · rw [if_neg k] at hv1
        obtain ⟨S', v', f1, f2, f3, f4, f5⟩ := step (pI S 1 3 v1) (FrR.refl.w (Or.inr rfl)) (by rw [pI_idx (by decide)]; exact e) pI_eq
        refine ⟨S', v', fun K => ?_, f2, f3, f4, f5⟩
        rw [f_X6_readNumber_59]
        simp (disch := omega) only [e, e2, ed, e3, eb, gI, uI, cI_of, aI_of, sI_of, mnI_of, mxI_of, abI_of, dvI_of, rmI_of, bI_of, bV_of, rI, rV, rL, rP, rT, rZ_of, rC_of, if_pos, if_neg, if_true, if_false]
        rw [← hv1]
        exact f1 K
    · have ed := isDigit_n N h (i := i) (by omega) (by omega) (by rw [chT_at h0 (by omega)]; exact g)
      rw [scF_n g]
      refine ⟨S, v, fun K => ?_, e, e3, fun _ => by rw [show (i - i).toNat = 0 by omega]; rfl, FrR.refl⟩
      rw [f_X6_readNumber_59, show c + (i - i) = c by omega]
      simp (disch := omega) only [e, e2, ed, gI, uI, cI_of, aI_of, sI_of, mnI_of, mxI_of, abI_of, dvI_of, rmI_of, bI_of, bV_of, rI, rV, rL, rP, rT, rZ_of, rC_of, if_pos, if_neg, if_true, if_false]
theorem dcF_in {m : Nat} (hm : m ≤ 3) {i : Int} (h : ∀ j, i ≤ j → j < i + m → isDg (t j)) : 0 ≤ dcF t m i 0 ∧ dcF t m i 0 ≤ 999 := by
  unfold isDg at h
  match m, hm, h with
  | 0, _, _ => exact ⟨Int.le_refl 0, by show (0 : Int) ≤ 999; decide⟩
  | 1, _, h => have := h i (by omega) (by omega); show 0 ≤ 0 * 10 + (t i - 48) ∧ 0 * 10 + (t i - 48) ≤ 999; omega
  | 2, _, h => have a := h i (by omega) (by omega); have b := h (i + 1) (by omega) (by omega); show 0 ≤ (0 * 10 + (t i - 48)) * 10 + (t (i + 1) - 48) ∧ (0 * 10 + (t i - 48)) * 10 + (t (i + 1) - 48) ≤ 999; omega
  | 3, _, h => have a := h i (by omega) (by omega); have b := h (i + 1) (by omega) (by omega); have c := h (i + 1 + 1) (by omega) (by omega); show 0 ≤ ((0 * 10 + (t i - 48)) * 10 + (t (i + 1) - 48)) * 10 + (t (i + 1 + 1) - 48) ∧ ((0 * 10 + (t i - 48)) * 10 + (t (i + 1) - 48)) * 10 + (t (i + 1 + 1) - 48) ≤ 999; omega
  | m + 4, hm, _ => omega
def nmM (t : Int → Int) (L lo f : Int) : Prop := lo < 0 ∧ chT t L f = 45
/-- where digits begin: behind a - where there may be one -/
noncomputable def nmG (t : Int → Int) (L lo f : Int) : Int := @ite Int (nmM t L lo f) (Classical.propDecidable _) (f + 1) f
noncomputable def nmE (t : Int → Int) (L lo f : Int) : Int := de t L (nmG t L lo f)
noncomputable def nmD (t : Int → Int) (L lo f : Int) : Int := dcF t (nmE t L lo f - nmG t L lo f).toNat (nmG t L lo f) 0
noncomputable def nmV (t : Int → Int) (L lo f : Int) : Int := @ite Int (nmM t L lo f) (Classical.propDecidable _) (-nmD t L lo f) (nmD t L lo f)
def nmOK (t : Int → Int) (L lo hi f : Int) : Prop := 1 ≤ nmE t L lo f - nmG t L lo f ∧ nmE t L lo f - nmG t L lo f ≤ 3 ∧ lo ≤ nmV t L lo f ∧ nmV t L lo f ≤ hi
theorem num_182n {x3 : Int} (N : Nat) : f_X6_readNumber_182 1 N x3 0 S = some (0, pI S 1 2 x3) := by
  unfold f_X6_readNumber_182 f_X6_fail uI
  dsimp only
  rw [cI_of (by omega) (by omega) (by omega) (by omega), if_pos rfl, rZ_of (Or.inl rfl), bI_of, cI_of (by omega) (by omega) (by omega) (by omega), if_pos rfl, rZ_of (Or.inl rfl)]
theorem num_182y {x3 : Int} (N : Nat) : f_X6_readNumber_182 1 N x3 1 S = some (1, S) := by
  unfold f_X6_readNumber_182 f_X6_readNumber_197
  rw [cI_of (by omega) (by omega) (by omega) (by omega), if_neg (by decide), rZ_of (Or.inr rfl)]
theorem num_149 {lo hi f c v : Int} (N : Nat) (hlo : -999 ≤ lo ∧ lo ≤ 0) (hhi : 0 ≤ hi ∧ hi ≤ 999) (e : S.1 1 3 = v) (hc : 0 ≤ c ∧ c ≤ 400) (hv : c ≤ 3 → -999 ≤ v ∧ v ≤ 999) : ((1 ≤ c ∧ c ≤ 3 ∧ lo ≤ v ∧ v ≤ hi) ∧ f_X6_readNumber_149 1 N lo hi f c S = some (1, S)) ∨ (¬ (1 ≤ c ∧ c ≤ 3 ∧ lo ≤ v ∧ v ≤ hi) ∧ f_X6_readNumber_149 1 N lo hi f c S = some (0, pI S 1 2 f)) := by
  unfold f_X6_readNumber_149 f_X6_readNumber_181 gI
  dsimp only
  rw [e]
  by_cases g1 : c < 1
  · refine Or.inr ⟨by omega, ?_⟩
    rw [cI_of (by omega) (by omega) (by omega) (by omega), if_pos g1, num_182n]
  by_cases g2 : 3 < c
  · refine Or.inr ⟨by omega, ?_⟩
    rw [cI_of (by omega) (by omega) (by omega) (by omega), if_neg g1, cI_of (by omega) (by omega) (by omega) (by omega), if_pos g2, num_182n]
  have hv := hv (by omega)
  rw [cI_of (by omega) (by omega) (by omega) (by omega), if_neg g1, cI_of (by omega) (by omega) (by omega) (by omega), if_neg g2, cI_of (by omega) (by omega) (by omega) (by omega)]
  by_cases g3 : v < lo
  · refine Or.inr ⟨by omega, ?_⟩
    rw [if_pos g3, num_182n]
  rw [if_neg g3, cI_of (by omega) (by omega) (by omega) (by omega)]
  by_cases g4 : hi < v
  · refine Or.inr ⟨by omega, ?_⟩
    rw [if_pos g4, num_182n]
  · refine Or.inl ⟨by omega, ?_⟩
    rw [if_neg g4, num_182y]
abbrev kM : Int → Prop := fun k => k = 1 ∨ k = 2 ∨ k = 3
/-- digits from g on, and what becomes of them -/
theorem num_34 {lo hi f g y : Int} (N : Nat) (h : RdT S L t) (hlo : -999 ≤ lo ∧ lo ≤ 0) (hhi : 0 ≤ hi ∧ hi ≤ 999) (hg : 0 ≤ g ∧ g ≤ L) (hy : (y = 0 ∧ S.1 1 1 = g) ∨ (y = 1 ∧ S.1 1 1 + 1 = g)) (hN : 500 ≤ N) {v : Int} (hv : v = if y = 0 then dcF t (de t L g - g).toNat g 0 else -dcF t (de t L g - g).toNat g 0) : ∃ r S', f_X6_readNumber_34 1 N lo hi f y S = some (r, S') ∧ FrR kM S S' ∧ (((1 ≤ de t L g - g ∧ de t L g - g ≤ 3 ∧ lo ≤ v ∧ v ≤ hi) ∧ r = 1 ∧ S'.1 1 1 = de t L g ∧ S'.1 1 3 = v ∧ S'.1 1 2 = S.1 1 2) ∨ (¬ (1 ≤ de t L g - g ∧ de t L g - g ≤ 3 ∧ lo ≤ v ∧ v ≤ hi) ∧ r = 0 ∧ S'.1 1 2 = f)) := by
  have hL := h.1
  have d := de_in (t := t) hg.1 hg.2
  have dd := (scF_in (P := isDg) (t := t) (L - g).toNat g).2.1
  have dc : de t L g - g ≤ 3 → 0 ≤ dcF t (de t L g - g).toNat g 0 ∧ dcF t (de t L g - g).toNat g 0 ≤ 999 := fun q => dcF_in (by omega) (fun j a b => dd j a (by show j < de t L g; omega))
  have c51 : ∀ S1, RdT S1 L t → S1.1 1 1 = g → ∃ r S', f_X6_readNumber_51 1 N lo hi f y S1 = some (r, S') ∧ FrR kM S1 S' ∧ (((1 ≤ de t L g - g ∧ de t L g - g ≤ 3 ∧ lo ≤ v ∧ v ≤ hi) ∧ r = 1 ∧ S'.1 1 1 = de t L g ∧ S'.1 1 3 = v ∧ S'.1 1 2 = S1.1 1 2) ∨ (¬ (1 ≤ de t L g - g ∧ de t L g - g ≤ 3 ∧ lo ≤ v ∧ v ≤ hi) ∧ r = 0 ∧ S'.1 1 2 = f)) := fun S1 h1 e1 => by
    have fr : FrR kN S1 (pI S1 1 3 0) := FrR.refl.w (Or.inr rfl)
    obtain ⟨S2, v2, a1, a2, a3, a4, a5⟩ := num_loop (x1 := lo) (x2 := hi) (x3 := f) (x4 := y) (L := L) (L - g).toNat N g 0 0 (pI S1 1 3 0) hg.1 (by omega) (by omega) (h1.r fr) (by rw [pI_idx (by decide)]; exact e1) pI_eq (by omega) (by omega)
    have a2 : S2.1 1 1 = de t L g := a2
    have a1 : ∀ K, f_X6_readNumber_59 1 K N lo hi f y 0 (pI S1 1 3 0) = K lo hi f y (0 + (de t L g - g)) S2 := a1
    have a4 : 0 + (de t L g - g) ≤ 3 → v2 = dcF t (de t L g - g).toNat g 0 := a4
    rw [Int.zero_add] at a1 a4
    have f2 : FrR kM S1 S2 := fr.trans a5 (fun k q => by rcases q with q | q; exact Or.inl q; exact Or.inr (Or.inr q)) (fun k q => by rcases q with q | q; exact Or.inl q; exact Or.inr (Or.inr q))
    have e2 : S2.1 1 2 = S1.1 1 2 := by rw [a5.2.2 2 (by decide), pI_idx (by decide)]
    have main : f_X6_readNumber_51 1 N lo hi f y S1 = f_X6_readNumber_135 1 N lo hi f y (de t L g - g) S2 := by
      unfold f_X6_readNumber_51 uI
      dsimp only
      rw [a1]
    rw [main]
    unfold f_X6_readNumber_135
    rcases hy with hy | hy
    · have hy := hy.1
      rw [cI_of (by omega) (by omega) (by omega) (by omega), if_pos hy]
      rw [if_pos hy] at hv
      rcases num_149 (f := f) N hlo hhi a3 (c := de t L g - g) (by omega) (fun q => by rw [a4 q]; have := dc q; omega) with ⟨o, k⟩ | ⟨o, k⟩
      · refine ⟨1, S2, k, f2, Or.inl ⟨?_, rfl, a2, ?_, e2⟩⟩
        · rw [hv, ← a4 o.2.1]; exact o
        · rw [hv, ← a4 o.2.1]; exact a3
      · refine ⟨0, pI S2 1 2 f, k, f2.w (Or.inr (Or.inl rfl)), Or.inr ⟨fun q => o ?_, rfl, pI_eq⟩⟩
        rw [a4 q.2.1, ← hv]; exact q
    · have hy := hy.1
      rw [cI_of (by omega) (by omega) (by omega) (by omega), if_neg (by omega)]
      rw [if_neg (by omega)] at hv
      unfold gI uI
      dsimp only
      rw [a3]
      rcases num_149 (f := f) (S := pI S2 1 3 (-v2)) N hlo hhi pI_eq (c := de t L g - g) (by omega) (fun q => by rw [a4 q]; have := dc q; omega) with ⟨o, k⟩ | ⟨o, k⟩
      · refine ⟨1, pI S2 1 3 (-v2), k, f2.w (Or.inr (Or.inr rfl)), Or.inl ⟨?_, rfl, by rw [pI_idx (by decide)]; exact a2, ?_, by rw [pI_idx (by decide)]; exact e2⟩⟩
        · rw [hv, ← a4 o.2.1]; exact o
        · rw [hv, ← a4 o.2.1]; exact pI_eq
      · refine ⟨0, pI (pI S2 1 3 (-v2)) 1 2 f, k, (f2.w (Or.inr (Or.inr rfl))).w (Or.inr (Or.inl rfl)), Or.inr ⟨fun q => o ?_, rfl, pI_eq⟩⟩
        rw [a4 q.2.1, ← hv]; exact q
  unfold f_X6_readNumber_34
  rcases hy with ⟨hy, e⟩ | ⟨hy, e⟩
  · rw [cI_of (by omega) (by omega) (by omega) (by omega), if_pos hy]
    exact c51 S h e
  · rw [cI_of (by omega) (by omega) (by omega) (by omega), if_neg (by omega)]
    unfold gI uI
    dsimp only
    have fr : FrR kM S (pI S 1 1 (S.1 1 1 + 1)) := FrR.refl.w (Or.inl rfl)
    obtain ⟨r, S', b1, b2, b3⟩ := c51 (pI S 1 1 (S.1 1 1 + 1)) (h.r fr) (by rw [pI_eq]; exact e)
    rw [pI_idx (by decide)] at b3
    exact ⟨r, S', b1, fr.trans b2 (fun _ q => q) (fun _ q => q), b3⟩
/-- a number between lo and hi is read, or the fault is where it should begin -/
theorem readNumberC {lo hi : Int} (N : Nat) (h : RdT S L t) (e : S.1 1 1 = p) (h0 : 0 ≤ p) (h1 : p ≤ L) (hlo : -999 ≤ lo ∧ lo ≤ 0) (hhi : 0 ≤ hi ∧ hi ≤ 999) (hN : 500 ≤ N) : ∃ r S', f_X6_readNumber N S 1 lo hi = some (r, S') ∧ FrR kM S S' ∧ ((nmOK t L lo hi (bk t L p) ∧ r = 1 ∧ S'.1 1 1 = nmE t L lo (bk t L p) ∧ S'.1 1 3 = nmV t L lo (bk t L p) ∧ S'.1 1 2 = S.1 1 2) ∨ (¬ nmOK t L lo hi (bk t L p) ∧ r = 0 ∧ S'.1 1 2 = bk t L p)) := by
  have hL := h.1
  obtain ⟨S1, a1, a2, a3⟩ := skip_of N h e h0 h1 hN
  have b := bk_in (t := t) h0 h1
  have h' := h.r a3
  have fr1 : FrR kM S S1 := a3.trans FrR.refl (fun _ q => Or.inl q) (fun _ q => q)
  have e12 : S1.1 1 2 = S.1 1 2 := a3.2.2 2 (by decide)
  obtain ⟨f, hf⟩ : ∃ f, f = bk t L p := ⟨_, rfl⟩
  rw [← hf] at a2 b ⊢
  have cb := chT_in h' (i := f)
  have main : f_X6_readNumber N S 1 lo hi = (if 0 ≤ lo then (f_X6_readNumber_33 1 N) lo hi f S1 else if chT t L f = 45 then (f_X6_readNumber_34 1 N) lo hi f 1 S1 else (f_X6_readNumber_33 1 N) lo hi f S1) := by
    unfold f_X6_readNumber
    rw [a1, bV_of]
    unfold gI
    dsimp only
    rw [a2, cI_of (by omega) (by omega) (by omega) (by omega)]
    by_cases g : 0 ≤ lo
    · rw [if_pos g, if_pos g]
    · rw [if_neg g, if_neg g, show (1 + 1 : Nat) = 2 from rfl, byteAt_of N h' (by omega) (by omega), bI_of, cI_of (by omega) (by omega) (by omega) (by omega)]
  by_cases m : nmM t L lo f
  · have hc : chT t L f = 45 := m.2
    have fl : f < L := by
      unfold chT at hc
      by_cases q : 0 ≤ f ∧ f < L
      · exact q.2
      · rw [if_neg q] at hc; omega
    have eG : nmG t L lo f = f + 1 := if_pos m
    have eV : nmV t L lo f = -nmD t L lo f := if_pos m
    obtain ⟨r, S', c1, c2, c3⟩ := num_34 (S := S1) (lo := lo) (hi := hi) (f := f) (g := f + 1) (y := 1) N h' hlo hhi (by omega) (Or.inr ⟨rfl, by omega⟩) hN (v := nmV t L lo f) (by rw [if_neg (by decide), eV]; unfold nmD nmE; rw [eG])
    refine ⟨r, S', ?_, fr1.trans c2 (fun _ q => q) (fun _ q => q), ?_⟩
    · rw [main, if_neg (by have := m.1; omega), if_pos m.2]; exact c1
    · unfold nmOK nmE; rw [eG, ← e12]; exact c3
  · have eG : nmG t L lo f = f := if_neg m
    have eV : nmV t L lo f = nmD t L lo f := if_neg m
    obtain ⟨r, S', c1, c2, c3⟩ := num_34 (S := S1) (lo := lo) (hi := hi) (f := f) (g := f) (y := 0) N h' hlo hhi (by omega) (Or.inl ⟨rfl, a2⟩) hN (v := nmV t L lo f) (by rw [if_pos rfl, eV]; unfold nmD nmE; rw [eG])
    refine ⟨r, S', ?_, fr1.trans c2 (fun _ q => q) (fun _ q => q), ?_⟩
    · rw [main]
      by_cases q : 0 ≤ lo
      · rw [if_pos q]; exact c1
      · rw [if_neg q, if_neg (fun k => m ⟨by omega, k⟩)]; exact c1
    · unfold nmOK nmE; rw [eG, ← e12]; exact c3
end READER
