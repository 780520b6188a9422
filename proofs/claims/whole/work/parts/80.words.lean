/-! texts: words and numbers on both sides -/
theorem lgc (x y : Int64) : (x = y ∧ bz (lg_cmp x y) = 0) ∨ (x ≠ y ∧ (bz (lg_cmp x y) = 1 ∨ bz (lg_cmp x y) = -1)) := by
  unfold lg_cmp
  by_cases g : x > y
  · rw [if_pos g]
    exact Or.inr ⟨fun e => absurd g (by rw [e]; exact Int64.lt_irrefl), Or.inl rfl⟩
  · rw [if_neg g]
    by_cases k : x = y
    · rw [if_pos k]; exact Or.inl ⟨k, rfl⟩
    · rw [if_neg k]; exact Or.inr ⟨k, Or.inr rfl⟩
def isW (t : Int → Int) (f n : Int) (w : Nat) : Prop := n = sLn w ∧ ∀ i, 0 ≤ i → i < n → sCh w i.toNat = t (f + i)
/-- the number of word w -/
def cdW (w : Nat) : Int64 := wdV (fun j => sCh w j.toNat) (sLn w).toNat
theorem sLn_in : ∀ w, w < 13 → 3 ≤ sLn w ∧ sLn w ≤ 6 := by decide
theorem sCh_in : ∀ w, w < 13 → ∀ k : Nat, k < 6 → (k : Int) < sLn w → 97 ≤ sCh w k ∧ sCh w k ≤ 122 := by decide
section WORDS
variable {S Sc Sm : S2} {L p f n : Int} {t : Int → Int} {w : Nat}
theorem word_code (hw : w < 13) (hn : 0 ≤ n) (hl : ∀ j, f ≤ j → j < f + n → isLt (t j)) : wdV (fun j => t (f + j)) (mn7 n).toNat = cdW w ↔ isW t f n w := by
  have b := sLn_in w hw
  have m : mn7 n ≤ 7 ∧ mn7 n ≤ n ∧ 0 ≤ mn7 n := by unfold mn7; split <;> omega
  have h1 : ∀ j : Int, 0 ≤ j → j < (mn7 n).toNat → 97 ≤ t (f + j) ∧ t (f + j) ≤ 122 := fun j a b => hl _ (by omega) (by omega)
  have h2 : ∀ j : Int, 0 ≤ j → j < (sLn w).toNat → 97 ≤ sCh w j.toNat ∧ sCh w j.toNat ≤ 122 := fun j a b => sCh_in w hw j.toNat (by omega) (by omega)
  have v1 := wdV_I (f := fun j => t (f + j)) (mn7 n).toNat (by omega) h1
  have v2 := wdV_I (f := fun j => sCh w j.toNat) (sLn w).toNat (by omega) h2
  constructor
  · intro e
    unfold cdW at e
    rw [e, v2] at v1
    obtain ⟨q1, q2⟩ := wdI_inj _ _ h2 h1 v1
    have en : n = sLn w := by
      have : mn7 n = sLn w := by omega
      unfold mn7 at this
      split at this <;> omega
    exact ⟨en, fun i a b => q2 i a (by omega)⟩
  · rintro ⟨e1, e2⟩
    have e3 : mn7 n = sLn w := by unfold mn7; split <;> omega
    unfold cdW
    rw [e3]
    exact wdV_congr _ (fun j a b => (e2 j a (by omega)).symm)
theorem isW_loop (hw : w < 13) (hn : n = sLn w) : ∀ (d N : Nat) (i : Int), 0 ≤ i → i + d = n → d < N → 0 ≤ f → f + n ≤ L → RdT S L t → S.1 1 4 = f → ((∀ j, i ≤ j → j < n → sCh w j.toNat = t (f + j)) ∧ f_X6_isWord_15 1 w N i S = some (1, S)) ∨ (¬ (∀ j, i ≤ j → j < n → sCh w j.toNat = t (f + j)) ∧ f_X6_isWord_15 1 w N i S = some (0, S)) := by
  have b := sLn_in w hw
  intro d
  induction d with
  | zero =>
    intro N i h0 hi hN hf hL h e4
    obtain ⟨N, rfl⟩ : ∃ M, N = M + 1 := ⟨N - 1, by omega⟩
    refine Or.inl ⟨fun j a b => by omega, ?_⟩
    rw [f_X6_isWord_15, cI_of (by omega) (by omega) (by omega) (by omega), if_pos (by omega), rZ_of (Or.inr rfl)]
  | succ d ih =>
    intro N i h0 hi hN hf hL h e4
    obtain ⟨N, rfl⟩ : ∃ M, N = M + 1 := ⟨N - 1, by omega⟩
    have hL4 := h.1
    have bb := h.2.2.2 (f + i) (by omega) (by omega)
    have eb := byteAt_of N h (i := f + i) (by omega) (by omega)
    rw [chT_at (by omega) (by omega)] at eb
    have cc := sCh_lt w i.toNat
    have step : f_X6_isWord_15 1 w (N + 1) i S = (if sCh w i.toNat = t (f + i) then f_X6_isWord_15 1 w N (i + 1) S else some (0, S)) := by
      rw [f_X6_isWord_15, cI_of (by omega) (by omega) (by omega) (by omega), if_neg (by omega)]
      unfold sAt gI
      rw [if_pos (by omega)]
      dsimp only
      rw [e4, show (1 + 1 : Nat) = 2 from rfl, eb, bI_of, cI_of (by omega) (by omega) (by omega) (by omega), rZ_of (Or.inl rfl)]
    rw [step]
    by_cases g : sCh w i.toNat = t (f + i)
    · rw [if_pos g]
      rcases ih N (i + 1) (by omega) (by omega) (by omega) hf hL h e4 with ⟨q1, q2⟩ | ⟨q1, q2⟩
      · exact Or.inl ⟨fun j a b => by by_cases k : j = i; rw [k]; exact g; exact q1 j (by omega) b, q2⟩
      · exact Or.inr ⟨fun k => q1 (fun j a b => k j (by omega) b), q2⟩
    · rw [if_neg g]
      exact Or.inr ⟨fun k => g (k i (by omega) (by omega)), rfl⟩
theorem isWordC (N : Nat) (hw : w < 13) (h : RdT S L t) (e4 : S.1 1 4 = f) (e5 : S.1 1 5 = n) (h0 : 0 ≤ f) (hn : 0 ≤ n) (hL : f + n ≤ L) (hN : 500 ≤ N) : (isW t f n w ∧ f_X6_isWord N S 1 w = some (1, S)) ∨ (¬ isW t f n w ∧ f_X6_isWord N S 1 w = some (0, S)) := by
  have hL4 := h.1
  have b := sLn_in w hw
  have main : f_X6_isWord N S 1 w = (if sLn w = n then f_X6_isWord_15 1 w N 0 S else some (0, S)) := by
    unfold f_X6_isWord gI
    dsimp only
    rw [e5, cI_of (by omega) (by omega) (by omega) (by omega), rZ_of (Or.inl rfl)]
  rw [main]
  by_cases g : sLn w = n
  · rw [if_pos g]
    rcases isW_loop hw g.symm n.toNat N 0 (by omega) (by omega) (by omega) h0 hL h e4 with ⟨q1, q2⟩ | ⟨q1, q2⟩
    · exact Or.inl ⟨⟨g.symm, q1⟩, q2⟩
    · exact Or.inr ⟨fun k => q1 k.2, q2⟩
  · rw [if_neg g]
    exact Or.inr ⟨fun k => g k.1.symm, rfl⟩
theorem isWordM (N : Nat) {x : Int} (hx : 0 ≤ x ∧ x ≤ 4) (e4 : S.1 0 4 = x) (c : Int64) : ((x = 1 ∧ S.2 0 9 = c) ∧ f_X11_isWord N S c = some (1, S)) ∨ (¬ (x = 1 ∧ S.2 0 9 = c) ∧ f_X11_isWord N S c = some (0, S)) := by
  have main : f_X11_isWord N S c = (if x = 1 then (if bz (lg_cmp (S.2 0 9) c) = 0 then some (1, S) else some (0, S)) else some (0, S)) := by
    unfold f_X11_isWord gI gL
    dsimp only
    rw [e4, cI_of (by omega) (by omega) (by omega) (by omega), rZ_of (Or.inl rfl), rZ_of (Or.inr rfl)]
    rcases lgc (S.2 0 9) c with ⟨_, g⟩ | ⟨_, g | g⟩ <;> rw [g, cI_of (by omega) (by omega) (by omega) (by omega)]
  rw [main]
  by_cases g : x = 1
  · rw [if_pos g]
    rcases lgc (S.2 0 9) c with ⟨k, q⟩ | ⟨k, q⟩
    · rw [if_pos q]; exact Or.inl ⟨⟨g, k⟩, rfl⟩
    · rw [if_neg (by omega)]; exact Or.inr ⟨fun z => k z.2, rfl⟩
  · rw [if_neg g]; exact Or.inr ⟨fun z => g z.1, rfl⟩
theorem TokF.x (h : TokF S L t f) : 0 ≤ S.1 0 4 ∧ S.1 0 4 ≤ 4 := by
  rcases h.2.2 with ⟨_, a⟩ | ⟨_, a, _⟩ | ⟨_, _, ⟨_, a, _⟩ | ⟨_, a⟩⟩ | ⟨_, a, _⟩ | ⟨_, a⟩ <;> omega
/-- the part is word w -/
theorem Tok_word (h : TokF S L t f) (hw : w < 13) : (S.1 0 4 = 1 ∧ S.2 0 9 = cdW w) ↔ (f < we t L f ∧ isW t f (we t L f - f) w) := by
  obtain ⟨h5, hf, h⟩ := h
  have wi := we_in (t := t) hf.1 hf.2
  have sc := (scF_in (P := isLt) (t := t) (L - f).toNat f)
  have nolt : ¬ (f < L ∧ isLt (t f)) → ¬ f < we t L f := fun k q => k ⟨by omega, sc.2.1 f (by omega) q⟩
  constructor
  · rintro ⟨a, b⟩
    rcases h with ⟨_, c⟩ | ⟨g, c, d, e, e9⟩ | ⟨_, _, ⟨_, c, _⟩ | ⟨_, c⟩⟩ | ⟨_, c, _⟩ | ⟨_, c⟩
    · omega
    · have pos : f < we t L f := by
        have := sc.2.2
        by_cases q : we t L f = f
        · exact absurd g.2 (by rw [← q]; exact this (by show we t L f < f + _; omega))
        · omega
      refine ⟨pos, (word_code hw (by omega) (fun j x y => sc.2.1 j x (by show j < we t L f; omega))).mp ?_⟩
      rw [← e9]; exact b
    all_goals omega
  · rintro ⟨a, b⟩
    have g : f < L ∧ isLt (t f) := by
      by_cases q : f < L ∧ isLt (t f)
      · exact q
      · exact absurd a (nolt q)
    rcases h with ⟨c, _⟩ | ⟨_, c, d, e, e9⟩ | ⟨c, _⟩ | ⟨c, _⟩ | ⟨c, _⟩
    · omega
    · refine ⟨c, ?_⟩
      rw [e9]
      exact (word_code hw (by omega) (fun j x y => sc.2.1 j x (by show j < we t L f; omega))).mpr b
    · exact absurd g.2 c.2.1
    · have := g.2; unfold isLt at this; omega
    · exact absurd g.2 c.2.1
theorem cdW_0 : cdW 0 = 10983929 := by decide
theorem cdW_1 : cdW 1 = 7742498 := by decide
theorem cdW_2 : cdW 2 = 9665171 := by decide
theorem cdW_3 : cdW 3 = 243140 := by decide
theorem cdW_4 : cdW 4 = 279844694 := by decide
theorem cdW_5 : cdW 5 = 189278330 := by decide
theorem cdW_6 : cdW 6 = 126893 := by decide
theorem cdW_7 : cdW 7 = 409469 := by decide
theorem cdW_8 : cdW 8 = 68056 := by decide
theorem cdW_9 : cdW 9 = 242939 := by decide
theorem cdW_10 : cdW 10 = 10157486 := by decide
theorem cdW_11 : cdW 11 = 14006 := by decide
theorem cdW_12 : cdW 12 = 2774 := by decide
theorem cdW_inj : ∀ v, v < 13 → ∀ w, w < 13 → cdW v = cdW w → v = w := by decide
end WORDS
