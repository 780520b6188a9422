/-! texts: the reference's parts -/
/-- cell 0 changes in the fields F and in the word alone, rows in A freely -/
def FrT (A : Nat → Prop) (F : Int → Prop) (S S' : S2) : Prop := (∀ j, j ≠ 0 → ¬ A j → S'.1 j = S.1 j ∧ S'.2 j = S.2 j) ∧ (∀ k, ¬ F k → S'.1 0 k = S.1 0 k) ∧ ∀ k, k ≠ 9 → S'.2 0 k = S.2 0 k
abbrev no0 : Nat → Prop := fun _ => False
abbrev kT : Int → Prop := fun k => (3 ≤ k ∧ k ≤ 7) ∨ k = 10
section TOKEN
variable {S : S2} {L p : Int} {t : Int → Int} {A : Nat → Prop} {F : Int → Prop}
theorem FrT.refl : FrT A F S S := ⟨fun _ _ _ => ⟨rfl, rfl⟩, fun _ _ => rfl, fun _ _ => rfl⟩
theorem FrT.trans {A' A'' : Nat → Prop} {F' F'' : Int → Prop} {S' S'' : S2} (h : FrT A F S S') (g : FrT A' F' S' S'') (hA : ∀ j, A j → A'' j) (hA' : ∀ j, A' j → A'' j) (hF : ∀ k, F k → F'' k) (hF' : ∀ k, F' k → F'' k) : FrT A'' F'' S S'' := ⟨fun j a b => ⟨((g.1 j a (fun q => b (hA' j q))).1).trans (h.1 j a (fun q => b (hA j q))).1, ((g.1 j a (fun q => b (hA' j q))).2).trans (h.1 j a (fun q => b (hA j q))).2⟩, fun k a => (g.2.1 k (fun q => a (hF' k q))).trans (h.2.1 k (fun q => a (hF k q))), fun k a => (g.2.2 k a).trans (h.2.2 k a)⟩
theorem FrT.w {S' : S2} {k v : Int} (h : FrT A F S S') (hk : F k) : FrT A F S (pI S' 0 k v) := ⟨fun j a b => ⟨(pI_row a).trans (h.1 j a b).1, (h.1 j a b).2⟩, fun x a => (pI_idx (fun q => a (by rw [q]; exact hk))).trans (h.2.1 x a), fun x a => h.2.2 x a⟩
theorem FrT.wL {S' : S2} {v : Int64} (h : FrT A F S S') : FrT A F S (pL S' 0 9 v) := ⟨fun j a b => ⟨(h.1 j a b).1, (pL_row a).trans (h.1 j a b).2⟩, fun x a => h.2.1 x a, fun x a => by rw [pL_at, if_neg a]; exact h.2.2 x a⟩
theorem FrT.wI {S' : S2} {i : Nat} {k v : Int} (h : FrT A F S S') (hi : A i) (h0 : i ≠ 0) : FrT A F S (pI S' i k v) := ⟨fun j a b => ⟨(pI_row (fun q => b (by rw [q]; exact hi))).trans (h.1 j a b).1, (h.1 j a b).2⟩, fun x a => by rw [pI_cell (Ne.symm h0)]; exact h.2.1 x a, fun x a => h.2.2 x a⟩
theorem FrT.wJ {S' : S2} {i : Nat} {k : Int} {v : Int64} (h : FrT A F S S') (hi : A i) (h0 : i ≠ 0) : FrT A F S (pL S' i k v) := ⟨fun j a b => ⟨(h.1 j a b).1, (pL_row (fun q => b (by rw [q]; exact hi))).trans (h.1 j a b).2⟩, fun x a => h.2.1 x a, fun x a => by rw [pL_cell (Ne.symm h0)]; exact h.2.2 x a⟩
/-- the tape that is read -/
def RdM (S : S2) (L : Int) (t : Int → Int) : Prop := (0 ≤ L ∧ L ≤ 400) ∧ S.1 0 2 = L ∧ (∀ i, 0 ≤ i → i < L → S.1 1 i = t i) ∧ ∀ i, 0 ≤ i → i < L → 1 ≤ t i ∧ t i ≤ 255
theorem RdM.r {S' : S2} (h : RdM S L t) (f : FrT A F S S') (h1 : ¬ A 1) (h2 : ¬ F 2) : RdM S' L t := ⟨h.1, by rw [f.2.1 2 h2]; exact h.2.1, fun i a b => by rw [(f.1 1 (by decide) h1).1]; exact h.2.2.1 i a b, h.2.2.2⟩
theorem here_y (N : Nat) (h : RdM S L t) (e : S.1 0 3 = p) (h0 : 0 ≤ p) (h1 : p < L) : f_X11_here N S = some (t p, S) := by
  obtain ⟨hL, e1, e2, e3⟩ := h
  have b := e3 p h0 h1
  unfold f_X11_here gI
  dsimp only
  rw [e, e1, cI_of (by omega) (by omega) (by omega) (by omega), if_neg (by omega), aI_of (by omega) (by omega), e2 p h0 h1]; rfl
theorem here_n (N : Nat) (h : RdM S L t) (e : S.1 0 3 = p) (h0 : 0 ≤ p) (h1 : p = L) : f_X11_here N S = some (-1, S) := by
  obtain ⟨hL, e1, e2, e3⟩ := h
  unfold f_X11_here gI
  dsimp only
  rw [e, e1, cI_of (by omega) (by omega) (by omega) (by omega), if_pos (by omega)]; rfl
theorem mLetter_y (N : Nat) {c : Int} (g : isLt c) : f_X11_isLetter N S c = some (1, S) := by
  unfold isLt at g
  unfold f_X11_isLetter
  rw [cI_of (by omega) (by omega) (by omega) (by omega), if_neg (by omega), cI_of (by omega) (by omega) (by omega) (by omega), if_neg (by omega), rZ_of (Or.inr rfl)]
theorem mLetter_n (N : Nat) {c : Int} (hc : -1 ≤ c ∧ c ≤ 255) (g : ¬ isLt c) : f_X11_isLetter N S c = some (0, S) := by
  unfold isLt at g
  unfold f_X11_isLetter
  rw [cI_of (by omega) (by omega) (by omega) (by omega), cI_of (by omega) (by omega) (by omega) (by omega)]
  by_cases k : c < 97
  · rw [if_pos k, rZ_of (Or.inl rfl)]
  · rw [if_neg k, if_pos (by omega), rZ_of (Or.inl rfl)]
theorem mDigit_y (N : Nat) {c : Int} (g : isDg c) : f_X11_isDigit N S c = some (1, S) := by
  unfold isDg at g
  unfold f_X11_isDigit
  rw [cI_of (by omega) (by omega) (by omega) (by omega), if_neg (by omega), cI_of (by omega) (by omega) (by omega) (by omega), if_neg (by omega), rZ_of (Or.inr rfl)]
theorem mDigit_n (N : Nat) {c : Int} (hc : -1 ≤ c ∧ c ≤ 255) (g : ¬ isDg c) : f_X11_isDigit N S c = some (0, S) := by
  unfold isDg at g
  unfold f_X11_isDigit
  rw [cI_of (by omega) (by omega) (by omega) (by omega), cI_of (by omega) (by omega) (by omega) (by omega)]
  by_cases k : c < 48
  · rw [if_pos k, rZ_of (Or.inl rfl)]
  · rw [if_neg k, if_pos (by omega), rZ_of (Or.inl rfl)]
theorem mskip_loop {k22 : S2 → Option S2} : ∀ (d N : Nat) (i : Int) (S : S2), 0 ≤ i → i + d = L → d < N → RdM S L t → S.1 0 3 = i → ∃ S', f_X11_next_0 k22 N S = k22 S' ∧ S'.1 0 3 = scF (fun c => c = 32) t d i ∧ FrT no0 kT S S' := by
  intro d
  induction d with
  | zero =>
    intro N i S h0 hi hN h e
    obtain ⟨N, rfl⟩ : ∃ M, N = M + 1 := ⟨N - 1, by omega⟩
    refine ⟨S, ?_, e, FrT.refl⟩
    rw [f_X11_next_0, here_n N h e h0 (by omega), bI_of, cI_of (by omega) (by omega) (by omega) (by omega), if_neg (by omega)]
  | succ d ih =>
    intro N i S h0 hi hN h e
    obtain ⟨N, rfl⟩ : ∃ M, N = M + 1 := ⟨N - 1, by omega⟩
    have hL := h.1
    have b := h.2.2.2 i h0 (by omega)
    by_cases g : t i = 32
    · have fr : FrT no0 kT S (pI S 0 3 (i + 1)) := FrT.refl.w (Or.inl (by omega))
      obtain ⟨S', f1, f2, f3⟩ := ih N (i + 1) (pI S 0 3 (i + 1)) (by omega) (by omega) (by omega) (h.r fr (fun q => q) (by decide)) pI_eq
      refine ⟨S', ?_, by rw [scF_y g]; exact f2, fr.trans f3 (fun _ h => h) (fun _ h => h) (fun _ h => h) (fun _ h => h)⟩
      rw [f_X11_next_0, here_y N h e h0 (by omega), bI_of, cI_of (by omega) (by omega) (by omega) (by omega), if_pos g]
      unfold gI uI
      dsimp only
      rw [e, f1]
    · refine ⟨S, ?_, by rw [scF_n g]; exact e, FrT.refl⟩
      rw [f_X11_next_0, here_y N h e h0 (by omega), bI_of, cI_of (by omega) (by omega) (by omega) (by omega), if_neg g]
abbrev kWd : Int → Prop := fun k => k = 3 ∨ k = 7
def mn7 (x : Int) : Int := if x ≤ 7 then x else 7
theorem mword_loop {k76 : S2 → Option S2} {f : Int} : ∀ (d N : Nat) (i : Int) (S : S2), 0 ≤ f → f ≤ i → i + d = L → d < N → RdM S L t → S.1 0 3 = i → S.1 0 7 = mn7 (i - f) → S.2 0 9 = wdV (fun j => t (f + j)) (mn7 (i - f)).toNat → ∃ S', f_X11_readWord_10 k76 N S = k76 S' ∧ S'.1 0 3 = scF isLt t d i ∧ S'.1 0 7 = mn7 (scF isLt t d i - f) ∧ S'.2 0 9 = wdV (fun j => t (f + j)) (mn7 (scF isLt t d i - f)).toNat ∧ FrT no0 kWd S S' := by
  intro d
  induction d with
  | zero =>
    intro N i S h0 hf hi hN h e e7 e9
    obtain ⟨N, rfl⟩ : ∃ M, N = M + 1 := ⟨N - 1, by omega⟩
    refine ⟨S, ?_, e, e7, e9, FrT.refl⟩
    rw [f_X11_readWord_10, here_n N h e (by omega) (by omega), bI_of, mLetter_n N (by omega) (by unfold isLt; omega), bI_of, cI_of (by omega) (by omega) (by omega) (by omega), if_pos rfl]
  | succ d ih =>
    intro N i S h0 hf hi hN h e e7 e9
    obtain ⟨N, rfl⟩ : ∃ M, N = M + 1 := ⟨N - 1, by omega⟩
    have hL := h.1
    have b := h.2.2.2 i (by omega) (by omega)
    have eh := here_y N h e (by omega) (by omega)
    by_cases g : isLt (t i)
    · have gg : isLt (t i) := g
      unfold isLt at gg
      by_cases k : 7 ≤ i - f
      · have m1 : mn7 (i - f) = 7 := by unfold mn7; split <;> omega
        have m2 : mn7 (i + 1 - f) = 7 := by unfold mn7; split <;> omega
        have fr : FrT no0 kWd S (pI S 0 3 (i + 1)) := FrT.refl.w (Or.inl rfl)
        obtain ⟨S', f1, f2, f3, f4, f5⟩ := ih N (i + 1) (pI S 0 3 (i + 1)) h0 (by omega) (by omega) (by omega) (h.r fr (fun q => q) (by decide)) pI_eq (by rw [pI_idx (by decide), e7, m1, m2]) (by show S.2 0 9 = _; rw [e9, m1, m2])
        refine ⟨S', ?_, by rw [scF_y g]; exact f2, by rw [scF_y g]; exact f3, by rw [scF_y g]; exact f4, fr.trans f5 (fun _ h => h) (fun _ h => h) (fun _ h => h) (fun _ h => h)⟩
        rw [f_X11_readWord_10, eh, bI_of, mLetter_y N g, bI_of, cI_of (by omega) (by omega) (by omega) (by omega), if_neg (by decide)]
        unfold gI f_X11_readWord_63 uI gI
        dsimp only
        rw [e7, m1, cI_of (by omega) (by omega) (by omega) (by omega), if_pos (by omega), e, f1]
      · have m1 : mn7 (i - f) = i - f := by unfold mn7; split <;> omega
        have m2 : mn7 (i + 1 - f) = i - f + 1 := by unfold mn7; split <;> omega
        have m3 : (i - f + 1).toNat = (i - f).toNat + 1 := by omega
        rw [m1] at e7 e9
        have fr : FrT no0 kWd S (pI (pI (pL S 0 9 (wdV (fun j => t (f + j)) ((i - f).toNat + 1))) 0 7 (i - f + 1)) 0 3 (i + 1)) := ((FrT.refl.wL).w (Or.inr rfl)).w (Or.inl rfl)
        obtain ⟨S', f1, f2, f3, f4, f5⟩ := ih N (i + 1) (pI (pI (pL S 0 9 (wdV (fun j => t (f + j)) ((i - f).toNat + 1))) 0 7 (i - f + 1)) 0 3 (i + 1)) h0 (by omega) (by omega) (by omega) (h.r fr (fun q => q) (by decide)) pI_eq (by rw [pI_idx (by decide), pI_eq, m2]) (by rw [m2, m3]; exact pL_eq (S := S) (i := 0) (k := 9))
        refine ⟨S', ?_, by rw [scF_y g]; exact f2, by rw [scF_y g]; exact f3, by rw [scF_y g]; exact f4, fr.trans f5 (fun _ h => h) (fun _ h => h) (fun _ h => h) (fun _ h => h)⟩
        have ew : ((((27 : Int64) * S.2 0 9) + ((iz (t i)).toInt64)) - (97 : Int64)) + (1 : Int64) = wdV (fun j => t (f + j)) ((i - f).toNat + 1) := by
          rw [e9, wdV]
          rw [show f + ((i - f).toNat : Int) = i by omega]
        rw [f_X11_readWord_10, eh, bI_of, mLetter_y N g, bI_of, cI_of (by omega) (by omega) (by omega) (by omega), if_neg (by decide)]
        unfold gI gL uL
        dsimp only
        rw [e7, cI_of (by omega) (by omega) (by omega) (by omega), if_neg (by omega), eh, bI_of, ew]
        unfold uI f_X11_readWord_63 uI gI
        dsimp only
        rw [pL_1, e7, pI_idx (by decide), pL_1, e, f1]
    · refine ⟨S, ?_, by rw [scF_n g]; exact e, by rw [scF_n g]; exact e7, by rw [scF_n g]; exact e9, FrT.refl⟩
      rw [f_X11_readWord_10, eh, bI_of, mLetter_n N (by omega) g, bI_of, cI_of (by omega) (by omega) (by omega) (by omega), if_pos rfl]
theorem mnum_loop {k100 : Int → S2 → Option S2} : ∀ (d N : Nat) (i c v : Int) (S : S2), 0 ≤ i → i + d = L → d < N → RdM S L t → S.1 0 3 = i → S.1 0 6 = v → 0 ≤ c → c + d ≤ 400 → ∃ S' v', f_X11_readNumber_46 k100 N c S = k100 (c + (scF isDg t d i - i)) S' ∧ S'.1 0 3 = scF isDg t d i ∧ S'.1 0 6 = v' ∧ (c + (scF isDg t d i - i) ≤ 3 → v' = dcF t (scF isDg t d i - i).toNat i v) ∧ FrT no0 (fun k => k = 3 ∨ k = 6) S S' := by
  intro d
  induction d with
  | zero =>
    intro N i c v S h0 hi hN h e e6 c0 c4
    obtain ⟨N, rfl⟩ : ∃ M, N = M + 1 := ⟨N - 1, by omega⟩
    have es : scF isDg t 0 i = i := rfl
    refine ⟨S, v, ?_, e, e6, fun _ => by rw [es, show (i - i).toNat = 0 by omega]; rfl, FrT.refl⟩
    rw [f_X11_readNumber_46, here_n N h e (by omega) (by omega), bI_of, mDigit_n N (by omega) (by unfold isDg; omega), bI_of, cI_of (by omega) (by omega) (by omega) (by omega), if_pos rfl, es, show c + (i - i) = c by omega]
  | succ d ih =>
    intro N i c v S h0 hi hN h e e6 c0 c4
    obtain ⟨N, rfl⟩ : ∃ M, N = M + 1 := ⟨N - 1, by omega⟩
    have hL := h.1
    have b := h.2.2.2 i h0 (by omega)
    have eh := here_y N h e (by omega) (by omega)
    have inn := (scF_in (P := isDg) (t := t) d (i + 1)).1
    by_cases g : isDg (t i)
    · rw [scF_y g]
      obtain ⟨v1, hv1⟩ : ∃ v1, v1 = (if 3 ≤ c then 0 else v * 10 + (t i - 48)) := ⟨_, rfl⟩
      have fr : FrT no0 (fun k => k = 3 ∨ k = 6) S (pI (pI S 0 6 v1) 0 3 (i + 1)) := (FrT.refl.w (Or.inr rfl)).w (Or.inl rfl)
      obtain ⟨S', v', f1, f2, f3, f4, f5⟩ := ih N (i + 1) (c + 1) v1 (pI (pI S 0 6 v1) 0 3 (i + 1)) (by omega) (by omega) (by omega) (h.r fr (fun q => q) (by decide)) pI_eq (by rw [pI_idx (by decide), pI_eq]) (by omega) (by omega)
      rw [show c + 1 + (scF isDg t d (i + 1) - (i + 1)) = c + (scF isDg t d (i + 1) - i) by omega] at f1 f4
      have e81 : f_X11_readNumber_81 (f_X11_readNumber_46 k100 N) N c v1 S = f_X11_readNumber_46 k100 N (c + 1) (pI (pI S 0 6 v1) 0 3 (i + 1)) := by
        unfold f_X11_readNumber_81 uI gI
        dsimp only
        rw [pI_idx (by decide), e]
      refine ⟨S', v', ?_, f2, f3, fun q => ?_, fr.trans f5 (fun _ h => h) (fun _ h => h) (fun _ h => h) (fun _ h => h)⟩
      · rw [f_X11_readNumber_46, eh, bI_of, mDigit_y N g, bI_of, cI_of (by omega) (by omega) (by omega) (by omega), if_neg (by decide), cI_of (by omega) (by omega) (by omega) (by omega), ← f1, ← e81]
        by_cases k : 3 ≤ c
        · rw [if_pos k, hv1, if_pos k]
        · rw [if_neg k]
          unfold gI
          dsimp only
          rw [e6, eh, bI_of, hv1, if_neg k, show 10 * v + t i - 48 = v * 10 + (t i - 48) by omega]
      · rw [f4 q, hv1, if_neg (by omega)]
        obtain ⟨m, hm⟩ : ∃ m, (scF isDg t d (i + 1) - i).toNat = m + 1 := ⟨(scF isDg t d (i + 1) - i).toNat - 1, by omega⟩
        rw [hm, dcF, show (scF isDg t d (i + 1) - (i + 1)).toNat = m by omega]
    · rw [scF_n g]
      refine ⟨S, v, ?_, e, e6, fun _ => by rw [show (i - i).toNat = 0 by omega]; rfl, FrT.refl⟩
      rw [f_X11_readNumber_46, eh, bI_of, mDigit_n N (by omega) g, bI_of, cI_of (by omega) (by omega) (by omega) (by omega), if_pos rfl, show c + (i - i) = c by omega]
/-- the part that begins at f -/
def TokF (S : S2) (L : Int) (t : Int → Int) (f : Int) : Prop := S.1 0 5 = f ∧ (0 ≤ f ∧ f ≤ L) ∧ ((L ≤ f ∧ S.1 0 4 = 0) ∨ ((f < L ∧ isLt (t f)) ∧ S.1 0 4 = 1 ∧ S.1 0 3 = we t L f ∧ S.1 0 7 = mn7 (we t L f - f) ∧ S.2 0 9 = wdV (fun j => t (f + j)) (mn7 (we t L f - f)).toNat) ∨ ((f < L ∧ ¬ isLt (t f) ∧ (isDg (t f) ∨ t f = 45)) ∧ S.1 0 10 = (if t f = 45 then 1 else 0) ∧ (((1 ≤ nmE t L (-1) f - nmG t L (-1) f ∧ nmE t L (-1) f - nmG t L (-1) f ≤ 3) ∧ S.1 0 4 = 2 ∧ S.1 0 3 = nmE t L (-1) f ∧ S.1 0 6 = nmV t L (-1) f) ∨ (¬ (1 ≤ nmE t L (-1) f - nmG t L (-1) f ∧ nmE t L (-1) f - nmG t L (-1) f ≤ 3) ∧ S.1 0 4 = 4))) ∨ ((f < L ∧ t f = 59) ∧ S.1 0 4 = 3 ∧ S.1 0 3 = f + 1) ∨ ((f < L ∧ ¬ isLt (t f) ∧ ¬ isDg (t f) ∧ t f ≠ 45 ∧ t f ≠ 59) ∧ S.1 0 4 = 4))
theorem num35 {f y g : Int} (N : Nat) (h : RdM S L t) (hy : y = 0 ∨ y = 1) (h10 : S.1 0 10 = y) (hg : 0 ≤ g ∧ g ≤ L) (hgg : g = f + y) (hN : 500 ≤ N) : ∃ S', f_X11_readNumber_35 N y f S = some S' ∧ FrT no0 kT S S' ∧ S'.1 0 5 = S.1 0 5 ∧ S'.1 0 10 = y ∧ (((1 ≤ de t L g - g ∧ de t L g - g ≤ 3) ∧ S'.1 0 4 = 2 ∧ S'.1 0 3 = de t L g ∧ S'.1 0 6 = (if y = 0 then dcF t (de t L g - g).toNat g 0 else -dcF t (de t L g - g).toNat g 0)) ∨ (¬ (1 ≤ de t L g - g ∧ de t L g - g ≤ 3) ∧ S'.1 0 4 = 4)) := by
  have hL := h.1
  have d := de_in (t := t) hg.1 hg.2
  have fr : FrT no0 kT S (pI (pI S 0 3 g) 0 6 0) := (FrT.refl.w (Or.inl (by omega))).w (Or.inl (by omega))
  obtain ⟨S2, v2, a1, a2, a3, a4, a5⟩ := mnum_loop (k100 := f_X11_readNumber_100 N) (L := L) (L - g).toNat N g 0 0 (pI (pI S 0 3 g) 0 6 0) hg.1 (by omega) (by omega) (h.r fr (fun q => q) (by decide)) (by rw [pI_idx (by decide), pI_eq]) pI_eq (by omega) (by omega)
  have a2 : S2.1 0 3 = de t L g := a2
  have a1 : f_X11_readNumber_46 (f_X11_readNumber_100 N) N 0 (pI (pI S 0 3 g) 0 6 0) = f_X11_readNumber_100 N (0 + (de t L g - g)) S2 := a1
  have a4 : 0 + (de t L g - g) ≤ 3 → v2 = dcF t (de t L g - g).toNat g 0 := a4
  rw [Int.zero_add] at a1 a4
  have f2 : FrT no0 kT S S2 := fr.trans a5 (fun _ q => q) (fun _ q => q) (fun _ q => q) (fun k q => Or.inl (by omega))
  have e10 : S2.1 0 10 = y := by rw [a5.2.1 10 (by decide), pI_idx (by decide), pI_idx (by decide)]; exact h10
  have e5 : S2.1 0 5 = S.1 0 5 := by rw [a5.2.1 5 (by decide), pI_idx (by decide), pI_idx (by decide)]
  obtain ⟨w, hw⟩ : ∃ w, w = (if y = 0 then v2 else -v2) := ⟨_, rfl⟩
  have main : f_X11_readNumber_35 N y f S = f_X11_readNumber_120 N (de t L g - g) w S2 := by
    unfold f_X11_readNumber_35 uI
    dsimp only
    rw [← hgg, a1]
    unfold f_X11_readNumber_100 gI
    dsimp only
    rw [e10, a3, cI_of (by omega) (by omega) (by omega) (by omega), hw]
    by_cases q : y = 0
    · rw [if_pos q, if_pos q]
    · rw [if_neg q, if_neg q]
  have m120 : ∀ b y4, b = 0 ∨ b = 1 → y4 = (if b = 0 then 4 else 2) → f_X11_in N (pI S2 0 6 w) (de t L g - g) 1 3 = some (b, pI S2 0 6 w) → f_X11_readNumber_120 N (de t L g - g) w S2 = some (pI (pI S2 0 6 w) 0 4 y4) := fun b y4 hb h4 ei => by
    unfold f_X11_readNumber_120 uI
    dsimp only
    rw [ei, bI_of, cI_of (by omega) (by omega) (by omega) (by omega), h4]
    by_cases q : b = 0
    · rw [if_pos q, if_pos q]; rfl
    · rw [if_neg q, if_neg q]; rfl
  have fr4 : ∀ y4, FrT no0 kT S (pI (pI S2 0 6 w) 0 4 y4) := fun y4 => (f2.w (Or.inl (by omega))).w (Or.inl (by omega))
  by_cases g1 : de t L g - g < 1
  · refine ⟨_, main.trans (m120 0 4 (Or.inl rfl) rfl ?_), fr4 4, by rw [pI_idx (by decide), pI_idx (by decide)]; exact e5, by rw [pI_idx (by decide), pI_idx (by decide)]; exact e10, Or.inr ⟨by omega, pI_eq⟩⟩
    unfold f_X11_in
    rw [cI_of (by omega) (by omega) (by omega) (by omega), if_pos g1, rZ_of (Or.inl rfl)]
  by_cases g2 : 3 < de t L g - g
  · refine ⟨_, main.trans (m120 0 4 (Or.inl rfl) rfl ?_), fr4 4, by rw [pI_idx (by decide), pI_idx (by decide)]; exact e5, by rw [pI_idx (by decide), pI_idx (by decide)]; exact e10, Or.inr ⟨by omega, pI_eq⟩⟩
    unfold f_X11_in
    rw [cI_of (by omega) (by omega) (by omega) (by omega), if_neg g1, cI_of (by omega) (by omega) (by omega) (by omega), if_pos g2, rZ_of (Or.inl rfl)]
  · refine ⟨_, main.trans (m120 1 2 (Or.inr rfl) rfl ?_), fr4 2, by rw [pI_idx (by decide), pI_idx (by decide)]; exact e5, by rw [pI_idx (by decide), pI_idx (by decide)]; exact e10, Or.inl ⟨by omega, pI_eq, by rw [pI_idx (by decide), pI_idx (by decide)]; exact a2, ?_⟩⟩
    · unfold f_X11_in
      rw [cI_of (by omega) (by omega) (by omega) (by omega), if_neg g1, cI_of (by omega) (by omega) (by omega) (by omega), if_neg g2, rZ_of (Or.inr rfl)]
    · rw [pI_idx (by decide), pI_eq, hw, a4 (by omega)]
theorem bk_bk (h0 : 0 ≤ p) (h1 : p ≤ L) : bk t L (bk t L p) = bk t L p := by
  have b := bk_in (t := t) h0 h1
  have q := (scF_in (P := fun c => c = 32) (t := t) (L - p).toNat p).2.2
  by_cases g : bk t L p < L
  · have q : ¬ t (bk t L p) = 32 := q (by show bk t L p < p + _; omega)
    obtain ⟨m, hm⟩ : ∃ m, (L - bk t L p).toNat = m + 1 := ⟨(L - bk t L p).toNat - 1, by omega⟩
    show scF _ t (L - bk t L p).toNat _ = _
    rw [hm, scF_n q]
  · show scF _ t (L - bk t L p).toNat _ = _
    rw [show (L - bk t L p).toNat = 0 by omega]; rfl
/-- the next part of the text -/
theorem nextM_of (N : Nat) (h : RdM S L t) (e : S.1 0 3 = p) (h0 : 0 ≤ p) (h1 : p ≤ L) (hN : 500 ≤ N) : ∃ S', f_X11_next N S = some S' ∧ FrT no0 kT S S' ∧ TokF S' L t (bk t L p) := by
  have hL := h.1
  obtain ⟨S1, a1, a2, a3⟩ := mskip_loop (k22 := f_X11_next_22 N) (L - p).toNat N p S h0 (by omega) (by omega) h e
  have b := bk_in (t := t) h0 h1
  have a2 : S1.1 0 3 = bk t L p := a2
  have b0 : 0 ≤ bk t L p ∧ bk t L p ≤ L := by omega
  obtain ⟨f, hf⟩ : ∃ f, f = bk t L p := ⟨_, rfl⟩
  rw [← hf] at a2 b b0 ⊢
  have fr5 : FrT no0 kT S (pI S1 0 5 f) := a3.w (Or.inl (by omega))
  have h5 : RdM (pI S1 0 5 f) L t := h.r fr5 (fun q => q) (by decide)
  have e3 : (pI S1 0 5 f).1 0 3 = f := by rw [pI_idx (by decide)]; exact a2
  have e5 : (pI S1 0 5 f).1 0 5 = f := pI_eq
  obtain ⟨S2, hS2⟩ : ∃ S2, S2 = pI S1 0 5 f := ⟨_, rfl⟩
  rw [← hS2] at fr5 h5 e3 e5
  have main : ∀ c, f_X11_here N S2 = some (c, S2) → f_X11_next N S = cI c (-1) (if c = (-1) then uI S2 0 4 0 fun S42 => rV S42 else bI (f_X11_isLetter N S2 c) fun v49 S49 => cI v49 0 (if v49 = 0 then bI (f_X11_isDigit N S49 c) fun v63 S63 => cI v63 0 (if v63 = 0 then cI c 45 (if c = 45 then (f_X11_next_75 N) S63 else gI S63 0 3 fun v84 => uI S63 0 3 (v84 + 1) fun S89 => cI c 59 (if c = 59 then (f_X11_next_104 N) 3 S89 else (f_X11_next_104 N) 4 S89)) else (f_X11_next_75 N) S63) else bV (f_X11_readWord N S49) fun S56 => rV S56)) := fun c hc => by
    unfold f_X11_next
    rw [a1]
    unfold f_X11_next_22
    show (gI S1 0 3 fun v24 => uI S1 0 5 v24 fun S27 => _) = _
    unfold gI
    dsimp only
    rw [a2]
    show (uI S1 0 5 f fun S27 => _) = _
    unfold uI
    dsimp only
    rw [← hS2, hc, bI_of]
  by_cases g : f < L
  · have bb := h5.2.2.2 f (by omega) g
    have m := main (t f) (here_y N h5 e3 (by omega) g)
    rw [cI_of (by omega) (by omega) (by omega) (by omega), if_neg (by omega)] at m
    by_cases gl : isLt (t f)
    · rw [mLetter_y N gl, bI_of, cI_of (by omega) (by omega) (by omega) (by omega), if_neg (by decide)] at m
      have fr7 : FrT no0 kWd S2 (pI (pL S2 0 9 0) 0 7 0) := (FrT.refl.wL).w (Or.inr rfl)
      obtain ⟨S3, c1, c2, c3, c4, c5⟩ := mword_loop (k76 := f_X11_readWord_76 N) (f := f) (L - f).toNat N f (pI (pL S2 0 9 0) 0 7 0) (by omega) (by omega) (by omega) (by omega) (h5.r fr7 (fun q => q) (by decide)) (by rw [pI_idx (by decide), pL_1]; exact e3) (by rw [pI_eq, show f - f = 0 by omega]; rfl) (by rw [show f - f = 0 by omega, show (mn7 0).toNat = 0 by decide]; exact pL_eq (S := S2) (i := 0) (k := 9))
      refine ⟨pI S3 0 4 1, ?_, (fr5.trans (fr7.trans c5 (fun _ q => q) (fun _ q => q) (fun _ q => q) (fun _ q => q) (A'' := no0) (F'' := kWd)) (fun _ q => q) (fun _ q => q) (fun _ q => q) (fun k q => Or.inl (by omega))).w (Or.inl (by omega)), ?_⟩
      · rw [m]
        unfold f_X11_readWord uL uI
        dsimp only
        rw [c1]; rfl
      · have e35 : S3.1 0 5 = f := by
          rw [c5.2.1 5 (by decide), pI_idx (by decide), pL_1]; exact e5
        exact ⟨by rw [pI_idx (by decide)]; exact e35, b0, Or.inr (Or.inl ⟨⟨g, gl⟩, pI_eq, by rw [pI_idx (by decide)]; exact c2, by rw [pI_idx (by decide)]; exact c3, c4⟩)⟩
    · rw [mLetter_n N (by omega) gl, bI_of, cI_of (by omega) (by omega) (by omega) (by omega), if_pos rfl] at m
      have n75 : f < L ∧ ¬ isLt (t f) ∧ (isDg (t f) ∨ t f = 45) → ∃ S', f_X11_next_75 N S2 = some S' ∧ FrT no0 kT S S' ∧ TokF S' L t f := fun hyp => by
        have eh := here_y N h5 e3 (by omega) g
        by_cases q : t f = 45
        · have nm : nmM t L (-1) f := ⟨by decide, by rw [chT_at (by omega) g]; exact q⟩
          have eG : nmG t L (-1) f = f + 1 := if_pos nm
          have fr10 : FrT no0 kT S2 (pI S2 0 10 1) := FrT.refl.w (Or.inr rfl)
          obtain ⟨S3, c1, c2, c3, c4, c5⟩ := num35 (S := pI S2 0 10 1) (f := f) (y := 1) (g := f + 1) N (h5.r fr10 (fun q => q) (by decide)) (Or.inr rfl) pI_eq (by omega) rfl hN
          refine ⟨S3, ?_, fr5.trans (fr10.trans c2 (fun _ q => q) (fun _ q => q) (fun _ q => q) (fun _ q => q) (A'' := no0) (F'' := kT)) (fun _ q => q) (fun _ q => q) (fun _ q => q) (fun _ q => q), ⟨by rw [c3, pI_idx (by decide)]; exact e5, b0, Or.inr (Or.inr (Or.inl ⟨hyp, by rw [c4, if_pos q], ?_⟩))⟩⟩
          · unfold f_X11_next_75 f_X11_readNumber
            rw [eh, bI_of, cI_of (by omega) (by omega) (by omega) (by omega), if_pos q]
            unfold f_X11_readNumber_15
            rw [uZ_of (Or.inr rfl)]
            unfold gI
            dsimp only
            rw [pI_eq, pI_idx (by decide), e3, cI_of (by omega) (by omega) (by omega) (by omega), if_neg (by decide), c1]; rfl
          · unfold nmV nmD nmE
            rw [if_pos nm, eG]
            rw [if_neg (by decide)] at c5
            exact c5
        · have nm : ¬ nmM t L (-1) f := fun k => q (by have := k.2; rw [chT_at (by omega) g] at this; exact this)
          have eG : nmG t L (-1) f = f := if_neg nm
          have fr10 : FrT no0 kT S2 (pI S2 0 10 0) := FrT.refl.w (Or.inr rfl)
          obtain ⟨S3, c1, c2, c3, c4, c5⟩ := num35 (S := pI S2 0 10 0) (f := f) (y := 0) (g := f) N (h5.r fr10 (fun q => q) (by decide)) (Or.inl rfl) pI_eq (by omega) (by omega) hN
          refine ⟨S3, ?_, fr5.trans (fr10.trans c2 (fun _ q => q) (fun _ q => q) (fun _ q => q) (fun _ q => q) (A'' := no0) (F'' := kT)) (fun _ q => q) (fun _ q => q) (fun _ q => q) (fun _ q => q), ⟨by rw [c3, pI_idx (by decide)]; exact e5, b0, Or.inr (Or.inr (Or.inl ⟨hyp, by rw [c4, if_neg q], ?_⟩))⟩⟩
          · unfold f_X11_next_75 f_X11_readNumber
            rw [eh, bI_of, cI_of (by omega) (by omega) (by omega) (by omega), if_neg q]
            unfold f_X11_readNumber_15
            rw [uZ_of (Or.inl rfl)]
            unfold gI
            dsimp only
            rw [pI_eq, pI_idx (by decide), e3, cI_of (by omega) (by omega) (by omega) (by omega), if_pos rfl, c1]; rfl
          · unfold nmV nmD nmE
            rw [if_neg nm, eG]
            rw [if_pos rfl] at c5
            exact c5
      by_cases gd : isDg (t f)
      · rw [mDigit_y N gd, bI_of, cI_of (by omega) (by omega) (by omega) (by omega), if_neg (by decide)] at m
        rw [m]; exact n75 ⟨g, gl, Or.inl gd⟩
      rw [mDigit_n N (by omega) gd, bI_of, cI_of (by omega) (by omega) (by omega) (by omega), if_pos rfl, cI_of (by omega) (by omega) (by omega) (by omega)] at m
      by_cases g45 : t f = 45
      · rw [if_pos g45] at m
        rw [m]; exact n75 ⟨g, gl, Or.inr g45⟩
      rw [if_neg g45] at m
      unfold gI uI at m
      dsimp only at m
      rw [e3, cI_of (by omega) (by omega) (by omega) (by omega)] at m
      have n104 : ∀ y S, f_X11_next_104 N y S = some (pI S 0 4 y) := fun y S => rfl
      rw [n104, n104] at m
      have frz : ∀ y, FrT no0 kT S (pI (pI S2 0 3 (f + 1)) 0 4 y) := fun y => (fr5.w (Or.inl (by omega))).w (Or.inl (by omega))
      have e5z : ∀ y, (pI (pI S2 0 3 (f + 1)) 0 4 y).1 0 5 = f := fun y => by rw [pI_idx (by decide), pI_idx (by decide)]; exact e5
      by_cases g59 : t f = 59
      · rw [if_pos g59] at m
        exact ⟨_, m, frz 3, e5z 3, b0, Or.inr (Or.inr (Or.inr (Or.inl ⟨⟨g, g59⟩, pI_eq, by rw [pI_idx (by decide), pI_eq]⟩)))⟩
      · rw [if_neg g59] at m
        exact ⟨_, m, frz 4, e5z 4, b0, Or.inr (Or.inr (Or.inr (Or.inr ⟨⟨g, gl, gd, g45, g59⟩, pI_eq⟩)))⟩
  · have m := main (-1) (here_n N h5 e3 (by omega) (by omega))
    rw [cI_of (by omega) (by omega) (by omega) (by omega), if_pos rfl] at m
    exact ⟨_, m, fr5.w (Or.inl (by omega)), by rw [pI_idx (by decide)]; exact e5, b0, Or.inl ⟨by omega, pI_eq⟩⟩
end TOKEN
