/-! fault, text -/
section TEXT
variable {S Sc Sm : S2} {L p f n nl m B : Int} {t : Int → Int}
theorem KM.ofT {A : Nat → Prop} {F : Int → Prop} (h : FrT A F Sm S) (hA : ∀ j, A j → 2 ≤ j ∧ j ≤ 7) (hF : ∀ k, F k → (3 ≤ k ∧ k ≤ 8) ∨ k = 10 ∨ (15 ≤ k ∧ k ≤ 18)) (h6 : ∀ k, k < 144 → S.1 6 k = Sm.1 6 k) (h7 : ∀ k, k < 4 → S.1 7 k = Sm.1 7 k) : KM Sm S :=
  ⟨fun j hj => (h.1 j (by omega) (fun q => by have := hA j q; omega)).1, (h.1 12 (by decide) (fun q => by have := hA 12 q; omega)).2, h6, h7, fun k hk => h.2.1 k (fun q => by have := hF k q; omega)⟩
theorem fault_both (N M : Nat) (hN : 1500 ≤ N) (hM : 1500 ≤ M) (H : RelB B Sc Sm) {a : Int} (ha : inR a) : ∃ (v : Int) (Sc' Sm' : S2), f_X10_fault N Sc a = some (v, Sc') ∧ f_X11_fault M Sm a = some (v, Sm') ∧ RelB (B + 40) Sc' Sm' := by
  unfold inR at ha
  by_cases g0 : a = 0
  · obtain ⟨q, Sc', Sm', a1, a2, a3, a4, a5, a6⟩ := readTrace_both N M H.1 hN hM
    refine ⟨q, Sc', Sm', (by unfold f_X10_fault; rw [cI_of (by omega) (by omega) (by omega) (by omega), if_pos g0, a1]; rfl), (by unfold f_X11_fault; rw [cI_of (by omega) (by omega) (by omega) (by omega), if_pos g0, a2]; rfl), (H.keep (KC.of a3 (fun j q => by have q : j = 1 ∨ j = 54 ∨ j = 55 ∨ (70 ≤ j ∧ j ≤ 74) := q; show j = 1 ∨ j = 19 ∨ j = 23 ∨ (54 ≤ j ∧ j ≤ 81); omega)) (KM.ofT a4 (fun j q => by have q : 2 ≤ j ∧ j ≤ 5 := q; omega) (fun k q => q) (fun k _ => by rw [(a4.1 6 (by decide) (by decide)).1]) (fun k _ => by rw [(a4.1 7 (by decide) (by decide)).1]))).up (by omega)⟩
  by_cases g1 : a = 1
  · obtain ⟨q, Sc', Sm', a1, a2, a3, a4, a5, a6, a7, a8⟩ := readScript_both (n := 4) N M H.1 (by omega) hN hM
    refine ⟨q, Sc', Sm', (by unfold f_X10_fault; rw [cI_of (by omega) (by omega) (by omega) (by omega), if_neg g0, cI_of (by omega) (by omega) (by omega) (by omega), if_pos g1, a1]; rfl), (by unfold f_X11_fault; rw [cI_of (by omega) (by omega) (by omega) (by omega), if_neg g0, cI_of (by omega) (by omega) (by omega) (by omega), if_pos g1, a2]; rfl), (H.keep (KC.of a3 (fun j q => by have q : j = 1 ∨ (75 ≤ j ∧ j ≤ 78) := q; show j = 1 ∨ j = 19 ∨ j = 23 ∨ (54 ≤ j ∧ j ≤ 81); omega)) (KM.ofT a4 (fun j q => by have q : j = 6 ∨ j = 7 := q; omega) (fun k q => by rcases q with q | q; exact Or.inl q; exact Or.inr (Or.inl q)) (fun k hk => a5 k (by omega)) (fun k hk => a6 k (by omega)))).up (by omega)⟩
  · exact ⟨-2, Sc, Sm, (by unfold f_X10_fault; rw [cI_of (by omega) (by omega) (by omega) (by omega), if_neg g0, cI_of (by omega) (by omega) (by omega) (by omega), if_neg g1]; rfl), (by unfold f_X11_fault; rw [cI_of (by omega) (by omega) (by omega) (by omega), if_neg g0, cI_of (by omega) (by omega) (by omega) (by omega), if_neg g1]; rfl), H.up (by omega)⟩
theorem op_fault (hB : B ≤ 50000) : Op_fault (RelB B) (RelB (B + 40)) := fun Sc Sm H a ha => ⟨1500, 1500, fault_both 1500 1500 (by decide) (by decide) H ha⟩
/-- the lines of a draft are taken -/
theorem copyL_of (N : Nat) {r : Int} (e0 : S.1 70 0 = nl) (e1 : S.1 70 1 = r) : ∃ S', f_X3_copyFrom N S 20 70 = some S' ∧ Fr (fun j => j = 20 ∨ j = 21 ∨ j = 22 ∨ j = 24) S S' ∧ S'.1 20 0 = nl ∧ S'.1 20 1 = r ∧ (∀ i, 0 ≤ i → i < 8 → S'.1 21 i = S.1 71 i ∧ S'.1 22 i = S.1 72 i) ∧ ∀ i, 0 ≤ i → i < 48 → S'.1 24 i = S.1 74 i := by
  refine ⟨pC (pC (pC (pI (pI S 20 0 nl) 20 1 r) 71 21 0 0 8) 72 22 0 0 8) 74 24 0 0 48, ?_, ((((Fr.refl.pI (A := fun j => j = 20 ∨ j = 21 ∨ j = 22 ∨ j = 24) (by decide)).pI (by decide)).pC (by decide)).pC (by decide)).pC (by decide), ?_, ?_, fun i x y => ⟨?_, ?_⟩, fun i x y => ?_⟩
  · unfold f_X3_copyFrom gI uI
    dsimp only
    rw [e0, pI_cell (by decide), e1, cpI_of (by decide) (by decide) (by decide) (by decide) (by decide), cpI_of (by decide) (by decide) (by decide) (by decide) (by decide), cpC_of (by decide) (by decide) (by decide) (by decide) (by decide)]; rfl
  · rw [pC_cell (by decide), pC_cell (by decide), pC_cell (by decide), pI_idx (by decide), pI_eq]
  · rw [pC_cell (by decide), pC_cell (by decide), pC_cell (by decide), pI_eq]
  · rw [pC_cell (by decide), pC_cell (by decide), pC_in (by omega) (by omega), show 0 + (i - 0) = i by omega, pI_cell (by decide), pI_cell (by decide)]
  · rw [pC_cell (by decide), pC_in (by omega) (by omega), show 0 + (i - 0) = i by omega, pC_cell (by decide), pI_cell (by decide), pI_cell (by decide)]
  · rw [pC_in (by omega) (by omega), show 0 + (i - 0) = i by omega, pC_cell (by decide), pC_cell (by decide), pI_cell (by decide), pI_cell (by decide)]
abbrev t8 : Nat → Prop := fun j => j = 8
abbrev tL : Nat → Prop := fun j => 10 ≤ j ∧ j ≤ 12
theorem tz_loop {k27 : S2 → Option (Int × S2)} : ∀ (d N : Nat) (i : Int) (S : S2), 0 ≤ i → i + d = 231 → d < N → ∃ S', f_X11_takeTrace_7 k27 N i S = k27 S' ∧ FrT t8 noF S S' ∧ (∀ k, i ≤ k → k < 231 → S'.1 8 k = 0) ∧ ∀ k, k < i → S'.1 8 k = S.1 8 k := by
  intro d
  induction d with
  | zero =>
    intro N i S h0 hd hN
    obtain ⟨N, rfl⟩ : ∃ M, N = M + 1 := ⟨N - 1, by omega⟩
    refine ⟨S, ?_, FrT.refl, fun k a b => by omega, fun _ _ => rfl⟩
    rw [f_X11_takeTrace_7, cI_of (by omega) (by omega) (by omega) (by omega), if_pos (by omega)]
  | succ d ih =>
    intro N i S h0 hd hN
    obtain ⟨N, rfl⟩ : ∃ M, N = M + 1 := ⟨N - 1, by omega⟩
    obtain ⟨S', a1, a2, a3, a4⟩ := ih N (i + 1) (pI S 8 i 0) (by omega) (by omega) (by omega)
    refine ⟨S', ?_, (FrT.wI (i := 8) (A := t8) FrT.refl rfl (by decide)).trans a2 (fun _ q => q) (fun _ q => q) (fun _ q => q) (fun _ q => q), fun k a b => ?_, fun k a => by rw [a4 k (by omega), pI_idx (by omega)]⟩
    · rw [f_X11_takeTrace_7, cI_of (by omega) (by omega) (by omega) (by omega), if_neg (by omega), sI_of (by omega) (by omega), a1]
    · by_cases e : k = i
      · rw [e, a4 i (by omega), pI_eq]
      · exact a3 k (by omega) b
theorem ts_loop {k55 : S2 → Option (Int × S2)} (hm : 0 ≤ m ∧ m ≤ 48) : ∀ (d N : Nat) (i : Int) (S : S2), 0 ≤ i → i + d = m → d < N → S.1 0 15 = m → ∃ S', f_X11_takeTrace_29 k55 N i S = k55 S' ∧ FrT t8 noF S S' ∧ (∀ k, i ≤ k → k < m → S'.1 8 k = S.1 2 k) ∧ ∀ k, (k < i ∨ m ≤ k) → S'.1 8 k = S.1 8 k := by
  intro d
  induction d with
  | zero =>
    intro N i S h0 hd hN e15
    obtain ⟨N, rfl⟩ : ∃ M, N = M + 1 := ⟨N - 1, by omega⟩
    refine ⟨S, ?_, FrT.refl, fun k a b => by omega, fun _ _ => rfl⟩
    rw [f_X11_takeTrace_29]
    unfold gI
    dsimp only
    rw [e15, cI_of (by omega) (by omega) (by omega) (by omega), if_pos (by omega)]
  | succ d ih =>
    intro N i S h0 hd hN e15
    obtain ⟨N, rfl⟩ : ∃ M, N = M + 1 := ⟨N - 1, by omega⟩
    obtain ⟨S', a1, a2, a3, a4⟩ := ih N (i + 1) (pI S 8 i (S.1 2 i)) (by omega) (by omega) (by omega) (by rw [pI_cell (by decide)]; exact e15)
    refine ⟨S', ?_, (FrT.wI (i := 8) (A := t8) FrT.refl rfl (by decide)).trans a2 (fun _ q => q) (fun _ q => q) (fun _ q => q) (fun _ q => q), fun k a b => ?_, fun k a => by rw [a4 k (by omega), pI_idx (by omega)]⟩
    · rw [f_X11_takeTrace_29]
      unfold gI
      dsimp only
      rw [e15, cI_of (by omega) (by omega) (by omega) (by omega), if_neg (by omega), aI_of (by omega) (by omega), sI_of (by omega) (by omega), a1]
    · by_cases e : k = i
      · rw [e, a4 i (by omega), pI_eq]
      · rw [a3 k (by omega) b, pI_cell (by decide)]
theorem tl_loop {k145 : S2 → Option (Int × S2)} (hn : 0 ≤ nl ∧ nl ≤ 8) : ∀ (d N : Nat) (i : Int) (S : S2), 0 ≤ i → i + d = nl → d < N → S.1 0 27 = nl → ∃ S', f_X11_takeTrace_95 k145 N i S = k145 S' ∧ FrT tL noF S S' ∧ (∀ k, i ≤ k → k < nl → S'.1 10 k = S.1 3 k ∧ S'.1 11 k = S.1 4 k ∧ S'.2 12 k = S.2 5 k) ∧ ∀ k, k < i → S'.1 10 k = S.1 10 k ∧ S'.1 11 k = S.1 11 k ∧ S'.2 12 k = S.2 12 k := by
  intro d
  induction d with
  | zero =>
    intro N i S h0 hd hN e27
    obtain ⟨N, rfl⟩ : ∃ M, N = M + 1 := ⟨N - 1, by omega⟩
    refine ⟨S, ?_, FrT.refl, fun k a b => by omega, fun _ _ => ⟨rfl, rfl, rfl⟩⟩
    rw [f_X11_takeTrace_95]
    unfold gI
    dsimp only
    rw [e27, cI_of (by omega) (by omega) (by omega) (by omega), if_pos (by omega)]
  | succ d ih =>
    intro N i S h0 hd hN e27
    obtain ⟨N, rfl⟩ : ∃ M, N = M + 1 := ⟨N - 1, by omega⟩
    obtain ⟨T, hT⟩ : ∃ T, T = pL (pI (pI S 10 i (S.1 3 i)) 11 i (S.1 4 i)) 12 i (S.2 5 i) := ⟨_, rfl⟩
    have fT : FrT tL noF S T := by
      rw [hT]
      exact FrT.wJ (i := 12) (A := tL) (FrT.wI (i := 11) (A := tL) (FrT.wI (i := 10) (A := tL) FrT.refl (by decide) (by decide)) (by decide) (by decide)) (by decide) (by decide)
    have x10 : ∀ k, T.1 10 k = if k = i then S.1 3 i else S.1 10 k := fun k => by
      rw [hT, pL_1, pI_row (i := 11) (by decide)]
      by_cases q : k = i
      · rw [if_pos q, q, pI_eq]
      · rw [if_neg q, pI_idx q]
    have x11 : ∀ k, T.1 11 k = if k = i then S.1 4 i else S.1 11 k := fun k => by
      rw [hT, pL_1]
      by_cases q : k = i
      · rw [if_pos q, q, pI_eq]
      · rw [if_neg q, pI_idx q, pI_row (i := 10) (by decide)]
    have x12 : ∀ k, T.2 12 k = if k = i then S.2 5 i else S.2 12 k := fun k => by rw [hT]; exact pL_at
    obtain ⟨S', a1, a2, a3, a4⟩ := ih N (i + 1) T (by omega) (by omega) (by omega) (by rw [fT.2.1 27 (fun q => q)]; exact e27)
    refine ⟨S', ?_, fT.trans a2 (fun _ q => q) (fun _ q => q) (fun _ q => q) (fun _ q => q), fun k a b => ?_, fun k a => ?_⟩
    · rw [f_X11_takeTrace_95]
      unfold gI
      dsimp only
      rw [e27, cI_of (by omega) (by omega) (by omega) (by omega), if_neg (by omega), aI_of (by omega) (by omega), sI_of (by omega) (by omega), aI_of (by omega) (by omega), sI_of (by omega) (by omega), aL_of (by omega) (by omega), sL_of (by omega) (by omega), ← a1, hT]
      rw [pI_cell (i := 10) (j := 4) (by decide)]
      rfl
    · by_cases e : k = i
      · obtain ⟨y1, y2, y3⟩ := a4 i (by omega)
        rw [e, y1, y2, y3, x10, x11, x12, if_pos rfl, if_pos rfl, if_pos rfl]; exact ⟨rfl, rfl, rfl⟩
      · obtain ⟨y1, y2, y3⟩ := a3 k (by omega) b
        rw [y1, y2, y3, (fT.1 3 (by decide) (by decide)).1, (fT.1 4 (by decide) (by decide)).1, (fT.1 5 (by decide) (by decide)).2]; exact ⟨rfl, rfl, rfl⟩
    · obtain ⟨y1, y2, y3⟩ := a4 k (by omega)
      rw [y1, y2, y3, x10, x11, x12, if_neg (by omega), if_neg (by omega), if_neg (by omega)]; exact ⟨rfl, rfl, rfl⟩
end TEXT
