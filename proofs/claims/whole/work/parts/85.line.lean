/-! texts: a line on both sides -/
abbrev lnK : Nat → Prop := fun j => j = 1 ∨ (70 ≤ j ∧ j ≤ 74)
abbrev lnN : Nat → Prop := fun j => 3 ≤ j ∧ j ≤ 5
abbrev kZ : Int → Prop := fun k => (3 ≤ k ∧ k ≤ 8) ∨ k = 10 ∨ k = 16
/-- nl lines are read -/
def LnD (Sc Sm : S2) (nl : Int) : Prop := (0 ≤ nl ∧ nl ≤ 8) ∧ Sc.1 70 0 = nl ∧ Sm.1 0 16 = nl ∧ ∀ i, 0 ≤ i → i < nl → Sm.1 3 i = Sc.1 71 i ∧ (0 ≤ Sc.1 71 i ∧ Sc.1 71 i ≤ 47) ∧ Sm.1 4 i = Sc.1 72 i ∧ (1 ≤ Sc.1 72 i ∧ Sc.1 72 i ≤ 6) ∧ (∀ j, 0 ≤ j → j < Sc.1 72 i → 97 ≤ Sc.1 74 (6 * i + j) ∧ Sc.1 74 (6 * i + j) ≤ 122) ∧ Sm.2 5 i = wdV (fun j => Sc.1 74 (6 * i + j)) (Sc.1 72 i).toNat
/-- the names' signs: kept, or bytes -/
def Bt (S S' : S2) : Prop := ∀ k, S'.1 74 k = S.1 74 k ∨ (0 ≤ S'.1 74 k ∧ S'.1 74 k ≤ 255)
theorem Bt.of {S S' : S2} (h : S'.1 74 = S.1 74) : Bt S S' := fun k => Or.inl (by rw [h])
theorem Bt.trans {S S' S'' : S2} (h : Bt S S') (g : Bt S' S'') : Bt S S'' := fun k => by
  rcases g k with g | g
  · rcases h k with h | h
    · exact Or.inl (g.trans h)
    · exact Or.inr (by rw [g]; exact h)
  · exact Or.inr g
section LINE
variable {S Sc Sm : S2} {L p f n nl : Int} {t : Int → Int}
theorem isNamed_loop {i : Int} (h : RdT S L t) (hi : 0 ≤ i ∧ i < 8) (hn : 1 ≤ n ∧ n ≤ 6) (h0 : 0 ≤ f) (hL : f + n ≤ L) (e72 : S.1 72 i = n) (hl : ∀ j, 0 ≤ j → j < n → 97 ≤ S.1 74 (6 * i + j) ∧ S.1 74 (6 * i + j) ≤ 122) : ∀ (d N : Nat) (j : Int), 0 ≤ j → j + d = n → d < N → ((∀ k, j ≤ k → k < n → S.1 74 (6 * i + k) = t (f + k)) ∧ f_X3_isNamed_3 70 2 N i f j S = some (1, S)) ∨ (¬ (∀ k, j ≤ k → k < n → S.1 74 (6 * i + k) = t (f + k)) ∧ f_X3_isNamed_3 70 2 N i f j S = some (0, S)) := by
  intro d
  induction d with
  | zero =>
    intro N j hj hd hN
    obtain ⟨N, rfl⟩ : ∃ M, N = M + 1 := ⟨N - 1, by omega⟩
    refine Or.inl ⟨fun k a b => by omega, ?_⟩
    rw [f_X3_isNamed_3, aI_of (by omega) (by omega)]
    show (cI j (S.1 72 i) _ : Option (Int × S2)) = _
    rw [e72, cI_of (by omega) (by omega) (by omega) (by omega), if_pos (by omega), rZ_of (Or.inr rfl)]
  | succ d ih =>
    intro N j hj hd hN
    obtain ⟨N, rfl⟩ : ∃ M, N = M + 1 := ⟨N - 1, by omega⟩
    have hL4 := h.1
    have bb := h.2.2.2 (f + j) (by omega) (by omega)
    have eb := byteAt_of N h (i := f + j) (by omega) (by omega)
    rw [chT_at (by omega) (by omega)] at eb
    have cc := hl j hj (by omega)
    have el : f_X3_letter N S 70 i j = some (S.1 74 (6 * i + j), S) := by
      unfold f_X3_letter
      rw [aI_of (by omega) (by omega)]
      show (rC (S.1 74 (i * 6 + j)) S) = _
      rw [show i * 6 + j = 6 * i + j by omega, rC_of (by omega) (by omega)]
    have step : f_X3_isNamed_3 70 2 (N + 1) i f j S = (if S.1 74 (6 * i + j) = t (f + j) then f_X3_isNamed_3 70 2 N i f (j + 1) S else some (0, S)) := by
      rw [f_X3_isNamed_3, aI_of (by omega) (by omega)]
      show (cI j (S.1 72 i) _ : Option (Int × S2)) = _
      rw [e72, cI_of (by omega) (by omega) (by omega) (by omega), if_neg (by omega), el, bI_of, eb, bI_of, cI_of (by omega) (by omega) (by omega) (by omega), rZ_of (Or.inl rfl)]
    rw [step]
    by_cases g : S.1 74 (6 * i + j) = t (f + j)
    · rw [if_pos g]
      rcases ih N (j + 1) (by omega) (by omega) (by omega) with ⟨q1, q2⟩ | ⟨q1, q2⟩
      · exact Or.inl ⟨fun k a b => by by_cases e : k = j; rw [e]; exact g; exact q1 k (by omega) b, q2⟩
      · exact Or.inr ⟨fun k => q1 (fun x a b => k x (by omega) b), q2⟩
    · rw [if_neg g]
      exact Or.inr ⟨fun k => g (k j (by omega) (by omega)), rfl⟩
theorem hasName_loop (h : RdT S L t) (hn : 1 ≤ n ∧ n ≤ 6) (h0 : 0 ≤ f) (hL : f + n ≤ L) (hnl : 0 ≤ nl ∧ nl ≤ 8) (e70 : S.1 70 0 = nl) (hb : ∀ i, 0 ≤ i → i < nl → (1 ≤ S.1 72 i ∧ S.1 72 i ≤ 6) ∧ ∀ j, 0 ≤ j → j < S.1 72 i → 97 ≤ S.1 74 (6 * i + j) ∧ S.1 74 (6 * i + j) ≤ 122) (q : Int → Prop) (hq : ∀ i, 0 ≤ i → i < nl → (q i ↔ (S.1 72 i = n ∧ ∀ k, 0 ≤ k → k < n → S.1 74 (6 * i + k) = t (f + k)))) : ∀ (d N : Nat) (i : Int), 0 ≤ i → i + d = nl → 20 + d < N → ((∃ k, (i ≤ k ∧ k < nl) ∧ q k) ∧ f_X3_hasName_3 70 2 N f n i S = some (1, S)) ∨ (¬ (∃ k, (i ≤ k ∧ k < nl) ∧ q k) ∧ f_X3_hasName_3 70 2 N f n i S = some (0, S)) := by
  intro d
  induction d with
  | zero =>
    intro N i hi hd hN
    obtain ⟨N, rfl⟩ : ∃ M, N = M + 1 := ⟨N - 1, by omega⟩
    refine Or.inr ⟨fun ⟨k, a, b⟩ => by omega, ?_⟩
    rw [f_X3_hasName_3]
    unfold gI
    dsimp only
    rw [e70, cI_of (by omega) (by omega) (by omega) (by omega), if_pos (by omega), rZ_of (Or.inl rfl)]
  | succ d ih =>
    intro N i hi hd hN
    obtain ⟨N, rfl⟩ : ∃ M, N = M + 1 := ⟨N - 1, by omega⟩
    have hL4 := h.1
    obtain ⟨b1, b2⟩ := hb i hi (by omega)
    have skip : ¬ q i → ((∃ k, (i ≤ k ∧ k < nl) ∧ q k) ∧ f_X3_hasName_3 70 2 N f n (i + 1) S = some (1, S)) ∨ (¬ (∃ k, (i ≤ k ∧ k < nl) ∧ q k) ∧ f_X3_hasName_3 70 2 N f n (i + 1) S = some (0, S)) := fun nq => by
      rcases ih N (i + 1) (by omega) (by omega) (by omega) with ⟨⟨k, a, b⟩, z⟩ | ⟨a, z⟩
      · exact Or.inl ⟨⟨k, by omega, b⟩, z⟩
      · refine Or.inr ⟨fun ⟨k, x, y⟩ => ?_, z⟩
        by_cases e : k = i
        · rw [e] at y; exact nq y
        · exact a ⟨k, by omega, y⟩
    rw [f_X3_hasName_3]
    unfold gI
    dsimp only
    rw [e70, cI_of (by omega) (by omega) (by omega) (by omega), if_neg (by omega), aI_of (by omega) (by omega)]
    show _ ∧ (cI (S.1 72 i) n _ : Option (Int × S2)) = _ ∨ _ ∧ (cI (S.1 72 i) n _ : Option (Int × S2)) = _
    rw [cI_of (by omega) (by omega) (by omega) (by omega)]
    by_cases g : S.1 72 i = n
    · rw [if_pos g]
      unfold f_X3_isNamed
      rcases isNamed_loop h (by omega) hn h0 hL g (fun j a b => b2 j a (by omega)) n.toNat N 0 (by omega) (by omega) (by omega) with ⟨z, y⟩ | ⟨z, y⟩
      · rw [y, bI_of, cI_of (by omega) (by omega) (by omega) (by omega), if_neg (by decide), rZ_of (Or.inr rfl)]
        exact Or.inl ⟨⟨i, by omega, (hq i hi (by omega)).mpr ⟨g, z⟩⟩, rfl⟩
      · rw [y, bI_of, cI_of (by omega) (by omega) (by omega) (by omega), if_pos rfl]
        exact skip (fun k => z ((hq i hi (by omega)).mp k).2)
    · rw [if_neg g]
      exact skip (fun k => g ((hq i hi (by omega)).mp k).1)
theorem dup_loop {k63 : Int → S2 → Option S2} (hnl : 0 ≤ nl ∧ nl ≤ 8) (e16 : S.1 0 16 = nl) : ∀ (d N : Nat) (i : Int), 0 ≤ i → i + d = nl → d < N → f_X11_readLine_25 k63 N 0 i S = k63 0 S ∧ (((∃ k, (i ≤ k ∧ k < nl) ∧ S.2 5 k = S.2 0 9) ∧ f_X11_readLine_25 k63 N 1 i S = k63 0 S) ∨ (¬ (∃ k, (i ≤ k ∧ k < nl) ∧ S.2 5 k = S.2 0 9) ∧ f_X11_readLine_25 k63 N 1 i S = k63 1 S)) := by
  intro d
  induction d with
  | zero =>
    intro N i hi hd hN
    obtain ⟨N, rfl⟩ : ∃ M, N = M + 1 := ⟨N - 1, by omega⟩
    have z : ∀ x, f_X11_readLine_25 k63 (N + 1) x i S = k63 x S := fun x => by
      rw [f_X11_readLine_25]
      unfold gI
      dsimp only
      rw [e16, cI_of (by omega) (by omega) (by omega) (by omega), if_pos (by omega)]
    exact ⟨z 0, Or.inr ⟨fun ⟨k, a, b⟩ => by omega, z 1⟩⟩
  | succ d ih =>
    intro N i hi hd hN
    obtain ⟨N, rfl⟩ : ∃ M, N = M + 1 := ⟨N - 1, by omega⟩
    obtain ⟨i0, i1⟩ := ih N (i + 1) (by omega) (by omega) (by omega)
    have z0 : f_X11_readLine_25 k63 (N + 1) 0 i S = k63 0 S := by
      rw [f_X11_readLine_25]
      unfold gI f_X11_readLine_55 f_X11_readLine_56
      dsimp only
      rw [e16, cI_of (by omega) (by omega) (by omega) (by omega), if_neg (by omega), cI_of (by omega) (by omega) (by omega) (by omega), if_pos rfl, i0]
    have z1 : f_X11_readLine_25 k63 (N + 1) 1 i S = (if S.2 5 i = S.2 0 9 then k63 0 S else f_X11_readLine_25 k63 N 1 (i + 1) S) := by
      rw [f_X11_readLine_25]
      unfold gI gL aL f_X11_readLine_55 f_X11_readLine_56
      dsimp only
      rw [e16, cI_of (by omega) (by omega) (by omega) (by omega), if_neg (by omega), cI_of (by omega) (by omega) (by omega) (by omega), if_neg (by decide), if_pos (by omega)]
      rcases lgc (S.2 5 i) (S.2 0 9) with ⟨g, e⟩ | ⟨g, e⟩
      · rw [e, cI_of (by omega) (by omega) (by omega) (by omega), if_pos rfl, if_pos g]; exact i0
      · rw [cI_of (by omega) (by omega) (by omega) (by omega), if_neg (by omega), if_neg g]
    refine ⟨z0, ?_⟩
    rw [z1]
    by_cases g : S.2 5 i = S.2 0 9
    · rw [if_pos g]
      exact Or.inl ⟨⟨i, by omega, g⟩, rfl⟩
    · rw [if_neg g]
      rcases i1 with ⟨⟨k, a, b⟩, z⟩ | ⟨a, z⟩
      · exact Or.inl ⟨⟨k, by omega, b⟩, z⟩
      · refine Or.inr ⟨fun ⟨k, x, y⟩ => ?_, z⟩
        by_cases e : k = i
        · rw [e] at y; exact g y
        · exact a ⟨k, by omega, y⟩
theorem addL_loop {pl : Int} (hn : 1 ≤ n ∧ n ≤ 6) (h0 : 0 ≤ f) (hL : f + n ≤ L) (hnl : 0 ≤ nl ∧ nl < 8) {k55 : Int → Int → S2 → Option S2} : ∀ (d N : Nat) (j : Int) (S : S2), 0 ≤ j → j + d = n → d < N → RdT S L t → S.1 70 0 = nl → ∃ S', f_X3_add_13 70 2 k55 N f n pl j S = k55 n pl S' ∧ Fr (fun i => i = 74) S S' ∧ (∀ k, j ≤ k → k < n → S'.1 74 (6 * nl + k) = t (f + k)) ∧ (∀ k, k < 6 * nl + j → S'.1 74 k = S.1 74 k) ∧ Bt S S' := by
  intro d
  induction d with
  | zero =>
    intro N j S hj hd hN h e70
    obtain ⟨N, rfl⟩ : ∃ M, N = M + 1 := ⟨N - 1, by omega⟩
    refine ⟨S, ?_, Fr.refl, fun k a b => by omega, fun _ _ => rfl, Bt.of rfl⟩
    rw [f_X3_add_13, cI_of (by omega) (by omega) (by omega) (by omega), if_pos (by omega)]
  | succ d ih =>
    intro N j S hj hd hN h e70
    obtain ⟨N, rfl⟩ : ∃ M, N = M + 1 := ⟨N - 1, by omega⟩
    have hL4 := h.1
    have bb := h.2.2.2 (f + j) (by omega) (by omega)
    have eb := byteAt_of N h (i := f + j) (by omega) (by omega)
    rw [chT_at (by omega) (by omega)] at eb
    have fr : Fr (fun i => i = 74) S (pI S 74 (6 * nl + j) (t (f + j))) := Fr.refl.pI rfl
    obtain ⟨S', a1, a2, a3, a4, a5⟩ := ih N (j + 1) (pI S 74 (6 * nl + j) (t (f + j))) (by omega) (by omega) (by omega) ⟨h.1, by rw [fr.2 2 (by decide)]; exact h.2.1, fun i a b => by rw [fr.2 3 (by decide)]; exact h.2.2.1 i a b, h.2.2.2⟩ (by rw [fr.2 70 (by decide)]; exact e70)
    refine ⟨S', ?_, fr.trans a2 (fun _ q => q) (fun _ q => q), fun k a b => ?_, fun k a => by rw [a4 k (by omega), pI_idx (by omega)], Bt.trans (fun k => ?_) a5⟩
    · rw [f_X3_add_13, cI_of (by omega) (by omega) (by omega) (by omega), if_neg (by omega), cI_of (by omega) (by omega) (by omega) (by omega), if_neg (by omega)]
      unfold gI
      dsimp only
      rw [e70, eb, bI_of, sC_of (by omega) (by omega) (by omega) (by omega), show nl * 6 + j = 6 * nl + j by omega]
      exact a1
    · by_cases e : k = j
      · rw [e, a4 _ (by omega), pI_eq]
      · exact a3 k (by omega) b
    · by_cases e : k = 6 * nl + j
      · rw [e, pI_eq]; exact Or.inr (by omega)
      · rw [pI_idx e]; exact Or.inl rfl
end LINE
