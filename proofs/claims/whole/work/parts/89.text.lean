/-! fault, text -/
section TEXT
variable {S Sc Sm : S2} {L p f n nl m B : Int} {t : Int → Int}
theorem KM.ofT {A : Nat → Prop} {F : Int → Prop} (h : FrT A F Sm S) (hA : ∀ j, A j → 2 ≤ j ∧ j ≤ 7) (hF : ∀ k, F k → (3 ≤ k ∧ k ≤ 8) ∨ k = 10 ∨ (15 ≤ k ∧ k ≤ 18)) (h6 : ∀ k, k < 144 → S.1 6 k = Sm.1 6 k) (h7 : ∀ k, k < 4 → S.1 7 k = Sm.1 7 k) : KM Sm S :=
  ⟨fun j hj => (h.1 j (by omega) (fun q => by have := hA j q; omega)).1, (h.1 12 (by decide) (fun q => by have := hA 12 q; omega)).2, h6, h7, fun k hk => h.2.1 k (fun q => by have := hF k q; omega)⟩
theorem RelB.ch (H : RelB B Sc Sm) : ChR Sc := H.2.2.1.2.2
theorem ChR.bt {S' : S2} (h : ChR S) (b : Bt S S') : ChR S' := fun k h0 h1 => by
  have := h k h0 h1
  rcases b k with e | e <;> omega
theorem cpC_of {α : Type} {i j : Nat} {n0 n1 sp dp n : Int} {K : S2 → Option α} (h : 0 ≤ sp ∧ 0 ≤ dp ∧ 0 ≤ n ∧ sp + n ≤ n0 ∧ dp + n ≤ n1) (h6 : ∀ q : Nat, q < n.toNat → 0 ≤ S.1 i (sp + q) ∧ S.1 i (sp + q) < 65536) : cpC S i j n0 n1 sp dp n K = K (pC S i j sp dp n) := if_pos ⟨h, h6⟩
theorem fault_both (N M : Nat) (hN : 1500 ≤ N) (hM : 1500 ≤ M) (H : RelB B Sc Sm) {a : Int} (ha : inR a) : ∃ (v : Int) (Sc' Sm' : S2), f_X10_fault N Sc a = some (v, Sc') ∧ f_X11_fault M Sm a = some (v, Sm') ∧ RelB (B + 40) Sc' Sm' := by
  unfold inR at ha
  by_cases g0 : a = 0
  · obtain ⟨q, Sc', Sm', a1, a2, a3, aB, a4, a5, a6⟩ := readTrace_both N M H.1 hN hM
    refine ⟨q, Sc', Sm', (by unfold f_X10_fault; rw [cI_of (by omega) (by omega) (by omega) (by omega), if_pos g0, a1]; rfl), (by unfold f_X11_fault; rw [cI_of (by omega) (by omega) (by omega) (by omega), if_pos g0, a2]; rfl), (RelB.keepN H (fun j hj h74 => a3.2 j (fun q => hj (by have q : j = 1 ∨ j = 54 ∨ j = 55 ∨ (70 ≤ j ∧ j ≤ 74) := q; show j = 1 ∨ j = 19 ∨ j = 23 ∨ (54 ≤ j ∧ j ≤ 73) ∨ (75 ≤ j ∧ j ≤ 81); omega))) (H.ch.bt aB) (KM.ofT a4 (fun j q => by have q : 2 ≤ j ∧ j ≤ 5 := q; omega) (fun k q => q) (fun k _ => by rw [(a4.1 6 (by decide) (by decide)).1]) (fun k _ => by rw [(a4.1 7 (by decide) (by decide)).1]))).up (by omega)⟩
  by_cases g1 : a = 1
  · obtain ⟨q, Sc', Sm', a1, a2, a3, a4, a5, a6, a7, a8⟩ := readScript_both (n := 4) N M H.1 (by omega) hN hM
    refine ⟨q, Sc', Sm', (by unfold f_X10_fault; rw [cI_of (by omega) (by omega) (by omega) (by omega), if_neg g0, cI_of (by omega) (by omega) (by omega) (by omega), if_pos g1, a1]; rfl), (by unfold f_X11_fault; rw [cI_of (by omega) (by omega) (by omega) (by omega), if_neg g0, cI_of (by omega) (by omega) (by omega) (by omega), if_pos g1, a2]; rfl), (H.keep (KC.of a3 (fun j q => by have q : j = 1 ∨ (75 ≤ j ∧ j ≤ 78) := q; show j = 1 ∨ j = 19 ∨ j = 23 ∨ (54 ≤ j ∧ j ≤ 73) ∨ (75 ≤ j ∧ j ≤ 81); omega)) (KM.ofT a4 (fun j q => by have q : j = 6 ∨ j = 7 := q; omega) (fun k q => by rcases q with q | q; exact Or.inl q; exact Or.inr (Or.inl q)) (fun k hk => a5 k (by omega)) (fun k hk => a6 k (by omega)))).up (by omega)⟩
  · exact ⟨-2, Sc, Sm, (by unfold f_X10_fault; rw [cI_of (by omega) (by omega) (by omega) (by omega), if_neg g0, cI_of (by omega) (by omega) (by omega) (by omega), if_neg g1]; rfl), (by unfold f_X11_fault; rw [cI_of (by omega) (by omega) (by omega) (by omega), if_neg g0, cI_of (by omega) (by omega) (by omega) (by omega), if_neg g1]; rfl), H.up (by omega)⟩
theorem op_fault (hB : B ≤ 50000) : Op_fault (RelB B) (RelB (B + 40)) := fun Sc Sm H a ha => ⟨1500, 1500, fault_both 1500 1500 (by decide) (by decide) H ha⟩
/-- the lines of a draft are taken -/
theorem copyL_of (N : Nat) {r : Int} (hch : ChR S) (e0 : S.1 70 0 = nl) (e1 : S.1 70 1 = r) : ∃ S', f_X3_copyFrom N S 20 70 = some S' ∧ Fr (fun j => j = 20 ∨ j = 21 ∨ j = 22 ∨ j = 24) S S' ∧ S'.1 20 0 = nl ∧ S'.1 20 1 = r ∧ (∀ i, 0 ≤ i → i < 8 → S'.1 21 i = S.1 71 i ∧ S'.1 22 i = S.1 72 i) ∧ ∀ i, 0 ≤ i → i < 48 → S'.1 24 i = S.1 74 i := by
  refine ⟨pC (pC (pC (pI (pI S 20 0 nl) 20 1 r) 71 21 0 0 8) 72 22 0 0 8) 74 24 0 0 48, ?_, ((((Fr.refl.pI (A := fun j => j = 20 ∨ j = 21 ∨ j = 22 ∨ j = 24) (by decide)).pI (by decide)).pC (by decide)).pC (by decide)).pC (by decide), ?_, ?_, fun i x y => ⟨?_, ?_⟩, fun i x y => ?_⟩
  · unfold f_X3_copyFrom gI uI
    dsimp only
    rw [e0, pI_cell (by decide), e1, cpI_of (by decide) (by decide) (by decide) (by decide) (by decide), cpI_of (by decide) (by decide) (by decide) (by decide) (by decide), cpC_of (by decide) (fun q hq => by rw [pC_cell (by decide), pC_cell (by decide), pI_cell (by decide), pI_cell (by decide)]; exact hch _ (by omega) (by omega))]; rfl
  · rw [pC_cell (by decide), pC_cell (by decide), pC_cell (by decide), pI_idx (by decide), pI_eq]
  · rw [pC_cell (by decide), pC_cell (by decide), pC_cell (by decide), pI_eq]
  · rw [pC_cell (by decide), pC_cell (by decide), pC_in (by omega) (by omega), show 0 + (i - 0) = i by omega, pI_cell (by decide), pI_cell (by decide)]
  · rw [pC_cell (by decide), pC_in (by omega) (by omega), show 0 + (i - 0) = i by omega, pC_cell (by decide), pI_cell (by decide), pI_cell (by decide)]
  · rw [pC_in (by omega) (by omega), show 0 + (i - 0) = i by omega, pC_cell (by decide), pC_cell (by decide), pI_cell (by decide), pI_cell (by decide)]
abbrev t8 : Nat → Prop := fun j => j = 8
abbrev tL : Nat → Prop := fun j => 10 ≤ j ∧ j ≤ 12
theorem tz_loop {k27 : S2 → Option (Int × S2)} : ∀ (d N : Nat) (i : Int) (S : S2), 0 ≤ i → i + d = 231 → d < N → ∃ S', f_X11_takeTrace_7 k27 N i S = k27 S' ∧ FrT t8 noF S S' ∧ (∀ k, i ≤ k → k < 231 → S'.1 8 k = 0) ∧ ∀ k, k < i → S'.1 8 k = S.1 8 k := by
  intro d
  induction d with
  | zero =>
    intro N i S h0 hd hN
    obtain ⟨N, rfl⟩ : ∃ M, N = M + 1 := ⟨N - 1, by omega⟩
    refine ⟨S, ?_, FrT.refl, fun k a b => by omega, fun _ _ => rfl⟩
    rw [f_X11_takeTrace_7, cI_of (by omega) (by omega) (by omega) (by omega), if_pos (by omega)]
  | succ d ih =>
    intro N i S h0 hd hN
    obtain ⟨N, rfl⟩ : ∃ M, N = M + 1 := ⟨N - 1, by omega⟩
    obtain ⟨S', a1, a2, a3, a4⟩ := ih N (i + 1) (pI S 8 i 0) (by omega) (by omega) (by omega)
    refine ⟨S', ?_, (FrT.wI (i := 8) (A := t8) FrT.refl rfl (by decide)).trans a2 (fun _ q => q) (fun _ q => q) (fun _ q => q) (fun _ q => q), fun k a b => ?_, fun k a => by rw [a4 k (by omega), pI_idx (by omega)]⟩
    · rw [f_X11_takeTrace_7, cI_of (by omega) (by omega) (by omega) (by omega), if_neg (by omega), sI_of (by omega) (by omega), a1]
    · by_cases e : k = i
      · rw [e, a4 i (by omega), pI_eq]
      · exact a3 k (by omega) b
theorem ts_loop {k55 : S2 → Option (Int × S2)} (hm : 0 ≤ m ∧ m ≤ 48) : ∀ (d N : Nat) (i : Int) (S : S2), 0 ≤ i → i + d = m → d < N → S.1 0 15 = m → ∃ S', f_X11_takeTrace_29 k55 N i S = k55 S' ∧ FrT t8 noF S S' ∧ (∀ k, i ≤ k → k < m → S'.1 8 k = S.1 2 k) ∧ ∀ k, (k < i ∨ m ≤ k) → S'.1 8 k = S.1 8 k := by
  intro d
  induction d with
  | zero =>
    intro N i S h0 hd hN e15
    obtain ⟨N, rfl⟩ : ∃ M, N = M + 1 := ⟨N - 1, by omega⟩
    refine ⟨S, ?_, FrT.refl, fun k a b => by omega, fun _ _ => rfl⟩
    rw [f_X11_takeTrace_29]
    unfold gI
    dsimp only
    rw [e15, cI_of (by omega) (by omega) (by omega) (by omega), if_pos (by omega)]
  | succ d ih =>
    intro N i S h0 hd hN e15
    obtain ⟨N, rfl⟩ : ∃ M, N = M + 1 := ⟨N - 1, by omega⟩
    obtain ⟨S', a1, a2, a3, a4⟩ := ih N (i + 1) (pI S 8 i (S.1 2 i)) (by omega) (by omega) (by omega) (by rw [pI_cell (by decide)]; exact e15)
    refine ⟨S', ?_, (FrT.wI (i := 8) (A := t8) FrT.refl rfl (by decide)).trans a2 (fun _ q => q) (fun _ q => q) (fun _ q => q) (fun _ q => q), fun k a b => ?_, fun k a => by rw [a4 k (by omega), pI_idx (by omega)]⟩
    · rw [f_X11_takeTrace_29]
      unfold gI
      dsimp only
      rw [e15, cI_of (by omega) (by omega) (by omega) (by omega), if_neg (by omega), aI_of (by omega) (by omega), sI_of (by omega) (by omega), a1]
    · by_cases e : k = i
      · rw [e, a4 i (by omega), pI_eq]
      · rw [a3 k (by omega) b, pI_cell (by decide)]
theorem tl_loop {k145 : S2 → Option (Int × S2)} (hn : 0 ≤ nl ∧ nl ≤ 8) : ∀ (d N : Nat) (i : Int) (S : S2), 0 ≤ i → i + d = nl → d < N → S.1 0 27 = nl → ∃ S', f_X11_takeTrace_95 k145 N i S = k145 S' ∧ FrT tL noF S S' ∧ (∀ k, i ≤ k → k < nl → S'.1 10 k = S.1 3 k ∧ S'.1 11 k = S.1 4 k ∧ S'.2 12 k = S.2 5 k) ∧ ∀ k, k < i → S'.1 10 k = S.1 10 k ∧ S'.1 11 k = S.1 11 k ∧ S'.2 12 k = S.2 12 k := by
  intro d
  induction d with
  | zero =>
    intro N i S h0 hd hN e27
    obtain ⟨N, rfl⟩ : ∃ M, N = M + 1 := ⟨N - 1, by omega⟩
    refine ⟨S, ?_, FrT.refl, fun k a b => by omega, fun _ _ => ⟨rfl, rfl, rfl⟩⟩
    rw [f_X11_takeTrace_95]
    unfold gI
    dsimp only
    rw [e27, cI_of (by omega) (by omega) (by omega) (by omega), if_pos (by omega)]
  | succ d ih =>
    intro N i S h0 hd hN e27
    obtain ⟨N, rfl⟩ : ∃ M, N = M + 1 := ⟨N - 1, by omega⟩
    obtain ⟨T, hT⟩ : ∃ T, T = pL (pI (pI S 10 i (S.1 3 i)) 11 i (S.1 4 i)) 12 i (S.2 5 i) := ⟨_, rfl⟩
    have fT : FrT tL noF S T := by
      rw [hT]
      exact FrT.wJ (i := 12) (A := tL) (FrT.wI (i := 11) (A := tL) (FrT.wI (i := 10) (A := tL) FrT.refl (by decide) (by decide)) (by decide) (by decide)) (by decide) (by decide)
    have x10 : ∀ k, T.1 10 k = if k = i then S.1 3 i else S.1 10 k := fun k => by
      rw [hT, pL_1, pI_row (i := 11) (by decide)]
      by_cases q : k = i
      · rw [if_pos q, q, pI_eq]
      · rw [if_neg q, pI_idx q]
    have x11 : ∀ k, T.1 11 k = if k = i then S.1 4 i else S.1 11 k := fun k => by
      rw [hT, pL_1]
      by_cases q : k = i
      · rw [if_pos q, q, pI_eq]
      · rw [if_neg q, pI_idx q, pI_row (i := 10) (by decide)]
    have x12 : ∀ k, T.2 12 k = if k = i then S.2 5 i else S.2 12 k := fun k => by rw [hT]; exact pL_at
    obtain ⟨S', a1, a2, a3, a4⟩ := ih N (i + 1) T (by omega) (by omega) (by omega) (by rw [fT.2.1 27 (fun q => q)]; exact e27)
    refine ⟨S', ?_, fT.trans a2 (fun _ q => q) (fun _ q => q) (fun _ q => q) (fun _ q => q), fun k a b => ?_, fun k a => ?_⟩
    · rw [f_X11_takeTrace_95]
      unfold gI
      dsimp only
      rw [e27, cI_of (by omega) (by omega) (by omega) (by omega), if_neg (by omega), aI_of (by omega) (by omega), sI_of (by omega) (by omega), aI_of (by omega) (by omega), sI_of (by omega) (by omega), aL_of (by omega) (by omega), sL_of (by omega) (by omega), ← a1, hT]
      rw [pI_cell (i := 10) (j := 4) (by decide)]
      rfl
    · by_cases e : k = i
      · obtain ⟨y1, y2, y3⟩ := a4 i (by omega)
        rw [e, y1, y2, y3, x10, x11, x12, if_pos rfl, if_pos rfl, if_pos rfl]; exact ⟨rfl, rfl, rfl⟩
      · obtain ⟨y1, y2, y3⟩ := a3 k (by omega) b
        rw [y1, y2, y3, (fT.1 3 (by decide) (by decide)).1, (fT.1 4 (by decide) (by decide)).1, (fT.1 5 (by decide) (by decide)).2]; exact ⟨rfl, rfl, rfl⟩
    · obtain ⟨y1, y2, y3⟩ := a4 k (by omega)
      rw [y1, y2, y3, x10, x11, x12, if_neg (by omega), if_neg (by omega), if_neg (by omega)]; exact ⟨rfl, rfl, rfl⟩
theorem take_both (N M : Nat) (hN : 1000 ≤ N) (hM : 1000 ≤ M) (H : RelB B Sc Sm) {g : Nat} (T : TRd Sc Sm g) (hg : g % 2 = 1) : ∃ (v : Int) (Sc' Sm' : S2), f_X10_takeTrace N Sc = some (v, Sc') ∧ f_X11_takeTrace M (pI Sm 0 2 0) = some (v, Sm') ∧ RelB (B + 40) Sc' Sm' := by
  obtain ⟨g1, g2, g3, -, -, g6, g7⟩ := id H
  obtain ⟨h, nx, T0, e0, k1, k2, k3, k4, k5, k6, k7, k8, k9⟩ := id g6
  obtain ⟨-, lx, -, lx1, -, lx2, -, -⟩ := id k7
  obtain ⟨-, -, -, tS, tN, tR, nl, D⟩ := T
  obtain ⟨m, hm, s1, s2, s3⟩ : ∃ m, (1 ≤ m ∧ m ≤ 48) ∧ SmR Sc Sm m := by
    rcases tS with ⟨z, _⟩ | ⟨_, z⟩
    · omega
    · exact z
  obtain ⟨d0, d1, d2, d3⟩ := D
  obtain ⟨s, hs⟩ : ∃ s, s = Sc.1 55 := ⟨_, rfl⟩
  obtain ⟨z, hz⟩ : ∃ z, z = Sc.1 54 2 := ⟨_, rfl⟩
  obtain ⟨r, hr⟩ : ∃ r, r = Sc.1 70 1 := ⟨_, rfl⟩
  have cb : CvB m s := fun i a b => by rw [hs]; exact (s3 i a b).2
  have cv : CvC Sc 54 m s z := ⟨s1, hz.symm, fun i _ _ => by rw [hs]⟩
  rw [← hz] at tN
  rw [← hr] at tR
  -- the class
  obtain ⟨C1, a1, a2, a3, -⟩ := copyFrom_of N (c0 := 4) cv hm.2 (by omega) (by omega) (by omega)
  have f1 : ∀ j, ¬ (j = 4 ∨ j = 5) → C1.1 j = Sc.1 j := fun j hj => a3.2 j hj
  obtain ⟨C2, b1, b2, b3, b4, b5, b6⟩ := copyL_of (S := C1) (nl := nl) (r := r) N (fun k x y => by rw [f1 74 (by decide)]; exact g3.2.2 k x y) (by rw [f1 70 (by decide)]; exact d1) (by rw [f1 70 (by decide)]; exact hr.symm)
  have f2 : ∀ j, ¬ (j = 20 ∨ j = 21 ∨ j = 22 ∨ j = 24) → C2.1 j = C1.1 j := fun j hj => b2.2 j hj
  have hoff : Off 6 4 := by unfold Off; omega
  have cu2 : CvC C2 4 m s z := ⟨by rw [f2 4 (by decide)]; exact a2.1, by rw [f2 4 (by decide)]; exact a2.2.1, fun i x y => by rw [f2 (4 + 1) (by decide)]; exact a2.2.2 i x y⟩
  obtain ⟨C3, c1, c2, c3⟩ := findC_of N hoff cu2 cb hm.1 hm.2 tN.2.1 tN.2.2 (by omega)
  have f3 : ∀ j, ¬ (6 ≤ j ∧ j ≤ 18) → C3.1 j = C2.1 j := fun j hj => c3.2 j (fun q => hj (by have q : 6 ≤ j ∧ j ≤ 6 + 12 := q; omega))
  obtain ⟨C4, hC4⟩ : ∃ C4, C4 = pI (pI (pI (pI (pI C3 25 0 0) 27 0 0) 48 1 0) 50 0 0) 2 1 0 := ⟨_, rfl⟩
  have f4 : ∀ j, ¬ (j = 25 ∨ j = 27 ∨ j = 48 ∨ j = 50 ∨ j = 2) → C4.1 j = C3.1 j := fun j hj => by rw [hC4, pI_row (by omega), pI_row (by omega), pI_row (by omega), pI_row (by omega), pI_row (by omega)]
  have fC : ∀ j, ¬ ((4 ≤ j ∧ j ≤ 18) ∨ j = 20 ∨ j = 21 ∨ j = 22 ∨ j = 24 ∨ j = 25 ∨ j = 27 ∨ j = 48 ∨ j = 50 ∨ j = 2) → C4.1 j = Sc.1 j := fun j hj => by rw [f4 j (by omega), f3 j (by omega), f2 j (by omega), f1 j (by omega)]
  have mC : f_X10_takeTrace N Sc = some (m, C4) := by
    unfold f_X10_takeTrace
    rw [a1, bV_of, b1, bV_of, c1, bV_of]
    unfold f_X2_forget f_X4_forget uI gI
    dsimp only
    rw [rV, bV_of, rV, bV_of, rV, bV_of]
    rw [← hC4, f4 4 (by decide), f3 4 (by decide), cu2.1]; rfl
  -- the reference
  obtain ⟨S1, m1, m2, m3, m4⟩ := tz_loop (k27 := f_X11_takeTrace_27 M) 231 M 0 (pI (pI Sm 0 2 0) 0 29 1) (by omega) (by omega) (by omega)
  have q15 : S1.1 0 15 = m := by rw [m2.2.1 15 (fun q => q), pI_idx (by decide), pI_idx (by decide)]; exact s2
  obtain ⟨S2, n1, n2, n3, n4⟩ := ts_loop (k55 := f_X11_takeTrace_55 M) (m := m) (by omega) m.toNat M 0 S1 (by omega) (by omega) (by omega) q15
  have fE : FrT t8 (fun k => k = 2 ∨ k = 29) Sm S2 := (((FrT.refl.w (Or.inl rfl)).w (Or.inr rfl)).trans m2 (fun _ q => q) (fun _ q => q) (fun _ q => q) (fun _ q => q.elim) (A'' := t8) (F'' := fun k => k = 2 ∨ k = 29)).trans n2 (fun _ q => q) (fun _ q => q) (fun _ q => q) (fun _ q => q.elim)
  obtain ⟨S3, hS3⟩ : ∃ S3, S3 = pI (pI (pI (pI S2 8 48 m) 8 49 z) 0 28 r) 0 27 nl := ⟨_, rfl⟩
  have fF : FrT t8 (fun k => k = 2 ∨ k = 29 ∨ k = 28 ∨ k = 27) Sm S3 := by
    rw [hS3]
    exact ((FrT.wI (i := 8) (A := t8) (FrT.wI (i := 8) (A := t8) (fE.trans FrT.refl (fun _ q => q) (fun _ q => q) (fun k q => by rcases q with q | q; exact Or.inl q; exact Or.inr (Or.inl q)) (fun _ q => q) (F'' := fun k => k = 2 ∨ k = 29 ∨ k = 28 ∨ k = 27)) rfl (by decide)) rfl (by decide)).w (Or.inr (Or.inr (Or.inl rfl)))).w (Or.inr (Or.inr (Or.inr rfl)))
  obtain ⟨S4, o1, o2, o3, o4⟩ := tl_loop (k145 := f_X11_takeTrace_145 M) d0 nl.toNat M 0 S3 (by omega) (by omega) (by omega) (by rw [hS3]; exact pI_eq)
  obtain ⟨S5, hS5⟩ : ∃ S5, S5 = pI (pI S4 0 44 0) 0 47 0 := ⟨_, rfl⟩
  have r8 : S5.1 8 = (pI (pI S2 8 48 m) 8 49 z).1 8 := by
    rw [hS5, pI_row (by decide), pI_row (by decide), (o2.1 8 (by decide) (by decide)).1, hS3, pI_row (by decide), pI_row (by decide)]
  have r48 : S5.1 8 48 = m := by rw [r8, pI_idx (by decide), pI_eq]
  have mM : f_X11_takeTrace M (pI Sm 0 2 0) = some (m, S5) := by
    unfold f_X11_takeTrace
    rw [uZ_of (Or.inr rfl), m1]
    unfold f_X11_takeTrace_27
    rw [n1]
    unfold f_X11_takeTrace_55 gI uI
    dsimp only
    rw [n2.2.1 15 (fun q => q), q15, sI_of (by decide) (by decide), pI_cell (by decide), fE.2.1 17 (by decide), tN.1, sI_of (by decide) (by decide), pI_cell (by decide), pI_cell (by decide), fE.2.1 18 (by decide), tR.1, pI_idx (by decide), pI_cell (by decide), pI_cell (by decide), fE.2.1 16 (by decide), d2, ← hS3, o1]
    unfold f_X11_takeTrace_145 uI
    dsimp only
    rw [uZ_of (Or.inl rfl), ← hS5]
    unfold f_X11_many
    rw [aI_of (by decide) (by decide), r48]; rfl
  have fR : ∀ j, j ≠ 0 → ¬ (8 ≤ j ∧ j ≤ 12 ∧ j ≠ 9) → S5.1 j = Sm.1 j := fun j hj hx => by
    rw [hS5, pI_row hj, pI_row hj, (o2.1 j hj (fun q => hx (by have q : 10 ≤ j ∧ j ≤ 12 := q; omega))).1, (fF.1 j hj (fun q => hx (by have q : j = 8 := q; omega))).1]
  have fK : ∀ k : Int, ¬ (k = 2 ∨ k = 29 ∨ k = 28 ∨ k = 27 ∨ k = 44 ∨ k = 47) → S5.1 0 k = Sm.1 0 k := fun k hk => by
    rw [hS5, pI_idx (by omega), pI_idx (by omega), o2.2.1 k (fun q => q), fF.2.1 k (by omega)]
  refine ⟨m, C4, S5, mC, mM, ⟨⟨by rw [hC4, pI_eq]; decide, ?_, fun i x y => ?_⟩, g2.keep (fun j x y => fC j (by omega)) (by rw [fC 0 (by decide)]) (fun _ _ => by rw [fR 6 (by decide) (by decide)]) (fun _ _ => by rw [fR 7 (by decide) (by decide)]) (fK 21 (by decide)), g3.keep (by rw [fC 0 (by decide)]) (by rw [fC 0 (by decide)]) (fR 9 (by decide) (by decide)) (fC 74 (by decide)), ⟨m, z, s, ⟨by omega, cb, tN.2, ?_, ⟨r48, by rw [r8, pI_eq], fun i x y => ?_⟩, ?_, fun _ => ?_, fun q => by omega⟩, fun _ => hm.1⟩, ⟨nl, r, Sc.1 71, ⟨d0, tR.2, fun i x y => (d3 i x y).2.1⟩, ⟨?_, ?_, fun i x y => ?_⟩, ⟨?_, ?_, fun i x y => ?_⟩, fun i x y => ?_⟩, ⟨0, nx, 0, e0, by omega, k2, by omega, ?_, ?_, ?_, ⟨0, lx, ?_, ?_, by decide, lx2, ⟨by omega, by omega⟩, fun k x y z => by omega⟩, ⟨?_, fun i w x y => ?_⟩, fun j x y => by omega⟩, Or.inl ⟨?_, ?_⟩⟩⟩
  · rw [hS5, pI_idx (by decide), pI_idx (by decide), o2.2.1 2 (fun q => q), hS3, pI_idx (by decide), pI_idx (by decide), pI_cell (by decide), pI_cell (by decide), n2.2.1 2 (fun q => q), m2.2.1 2 (fun q => q), pI_idx (by decide), pI_eq, hC4, pI_eq]
  · rw [hC4, pI_eq] at y; omega
  · exact ⟨by rw [f4 4 (by decide), f3 4 (by decide)]; exact cu2.1, by rw [f4 4 (by decide), f3 4 (by decide)]; exact cu2.2.1, fun i x y => by rw [f4 (4 + 1) (by decide), f3 (4 + 1) (by decide)]; exact cu2.2.2 i x y⟩
  · rw [r8, pI_idx (by omega), pI_idx (by omega), n3 i x y, (m2.1 2 (by decide) (by decide)).1, pI_row (by decide), pI_row (by decide), (s3 i x y).1, hs]
  · rw [if_neg (by omega), hS5, pI_idx (by decide), pI_idx (by decide), o2.2.1 29 (fun q => q), hS3, pI_idx (by decide), pI_idx (by decide), pI_cell (by decide), pI_cell (by decide), n2.2.1 29 (fun q => q), m2.2.1 29 (fun q => q), pI_eq]
  · obtain ⟨p1, p2, p3, p4⟩ := c2
    refine ⟨by rw [f4 6 (by decide)]; exact p1, by rw [f4 6 (by decide)]; exact p2, fun q x y => ?_, fun k x y => ?_⟩
    · rw [f4 (6 + 5) (by decide), f4 (6 + 6) (by decide), f4 (6 + 7) (by decide), f4 (6 + 8) (by decide), f4 (6 + 9) (by decide), f4 (6 + 10) (by decide)]; exact p3 q x y
    · rw [f4 (6 + 11) (by decide), f4 (6 + 12) (by decide)]; exact p4 k x y
  · rw [f4 20 (by decide), f3 20 (by decide)]; exact b3
  · rw [f4 20 (by decide), f3 20 (by decide)]; exact b4
  · rw [f4 21 (by decide), f3 21 (by decide), (b5 i x (by omega)).1, f1 71 (by decide)]
  · rw [hS5, pI_idx (by decide), pI_idx (by decide), o2.2.1 27 (fun q => q), hS3, pI_eq]
  · rw [hS5, pI_idx (by decide), pI_idx (by decide), o2.2.1 28 (fun q => q), hS3, pI_idx (by decide), pI_eq]
  · rw [hS5, pI_row (by decide), pI_row (by decide), (o3 i x y).1, (fF.1 3 (by decide) (by decide)).1, (d3 i x y).1]
  · obtain ⟨y1, y2, y3, y4, y5, y6⟩ := d3 i x y
    have e22 : C4.1 22 i = Sc.1 72 i := by rw [f4 22 (by decide), f3 22 (by decide), (b5 i x (by omega)).2, f1 72 (by decide)]
    have e24 : ∀ j, 0 ≤ j → j < Sc.1 72 i → C4.1 24 (6 * i + j) = Sc.1 74 (6 * i + j) := fun j j1 j2 => by rw [f4 24 (by decide), f3 24 (by decide), b6 _ (by omega) (by omega), f1 74 (by decide)]
    rw [e22]
    refine ⟨?_, y4, fun j j1 j2 => by rw [e24 j j1 j2]; exact y5 j j1 j2, ?_⟩
    · rw [hS5, pI_row (by decide), pI_row (by decide), (o3 i x y).2.1, (fF.1 4 (by decide) (by decide)).1, y3]
    · rw [hS5]
      show S4.2 12 i = _
      rw [(o3 i x y).2.2, (fF.1 5 (by decide) (by decide)).2, y6]
      exact wdV_congr _ (fun j j1 j2 => (e24 j j1 (by omega)).symm)
  · rw [hC4, pI_cell (by decide), pI_cell (by decide), pI_cell (by decide), pI_cell (by decide), pI_eq]
  · rw [hC4, pI_cell (by decide), pI_cell (by decide), pI_cell (by decide), pI_cell (by decide), pI_idx (by decide), f3 25 (by decide), f2 25 (by decide), f1 25 (by decide)]; exact k5
  · rw [hS5, pI_idx (by decide), pI_eq]
  · rw [hC4, pI_cell (by decide), pI_cell (by decide), pI_cell (by decide), pI_eq]
  · rw [hC4, pI_cell (by decide), pI_cell (by decide), pI_cell (by decide), pI_idx (by decide), pI_cell (by decide), f3 27 (by decide), f2 27 (by decide), f1 27 (by decide)]; exact lx1
  · rw [r8, pI_idx (by decide), pI_idx (by decide), n4 50 (by omega), m3 50 (by decide) (by decide)]; rfl
  · have y : i < min 0 60 := y
    omega
  · rw [hC4, pI_cell (by decide), pI_cell (by decide), pI_eq]
  · rw [hS5]; exact pI_eq
theorem RelB.mkS {Sc' Sm' : S2} (H : RelB B Sc Sm) (T : TapeR Sc' Sm') (Z : ScrR Sc' Sm') (c : ∀ j, (4 ≤ j ∧ j ≤ 18) ∨ (20 ≤ j ∧ j ≤ 22) ∨ (24 ≤ j ∧ j ≤ 30) ∨ (48 ≤ j ∧ j ≤ 53) ∨ 82 ≤ j ∨ j = 74 → Sc'.1 j = Sc.1 j) (c9 : Sc'.1 0 9 = Sc.1 0 9) (c10 : Sc'.1 0 10 = Sc.1 0 10) (m1 : ∀ j, ((8 ≤ j ∧ j ≤ 12) ∨ j = 23 ∨ j = 24) → Sm'.1 j = Sm.1 j) (m2 : Sm'.2 12 = Sm.2 12) (m5 : ∀ k : Int, (k = 27 ∨ k = 28 ∨ k = 29 ∨ k = 44 ∨ k = 47) → Sm'.1 0 k = Sm.1 0 k) : RelB B Sc' Sm' := by
  obtain ⟨h1, h2, h3, ⟨n, z, s, h4, h4'⟩, ⟨nl, r, pl, h5⟩, h6, h7⟩ := H
  exact ⟨T, Z, h3.keep c9 c10 (m1 9 (by omega)) (c 74 (by omega)), ⟨n, z, s, h4.keep (fun j hj => c j (by omega)) (fun k _ => by rw [m1 8 (by omega)]) (m5 29 (by omega)), by rw [m5 47 (by omega), m5 44 (by omega), c 20 (by omega)]; exact h4'⟩, ⟨nl, r, pl, h5.keep (fun j hj => c j (by omega)) (fun j hj => m1 j (by omega)) m2 (fun k hk => m5 k (by omega))⟩, h6.keep (fun j hj => c j (by omega)) (fun k _ _ => by rw [m1 8 (by omega)]) (m1 23 (by omega)) (m5 44 (by omega)), h7.keep (fun j hj => c j (by omega)) (m1 24 (by omega)) (m5 47 (by omega))⟩
theorem text_both (N M : Nat) (hN : 1500 ≤ N) (hM : 1500 ≤ M) (H : RelB B Sc Sm) {a : Int} (ha : inR a) : ∃ (v : Int) (Sc' Sm' : S2), f_X10_text N Sc a = some (v, Sc') ∧ f_X11_text M Sm a = some (v, Sm') ∧ RelB (B + 40) Sc' Sm' := by
  unfold inR at ha
  have h8 := H.2.1.1
  have e21 := H.2.1.2.1
  have e41 : a ≠ 1 → ∀ y S, f_X10_text_41 N a y S = some (-1, S) := fun g y S => by
    unfold f_X10_text_41
    rw [cI_of (by omega) (by omega) (by omega) (by omega), if_neg g]; rfl
  have e22 : a ≠ 1 → ∀ S, f_X11_text_22 M a S = some (-1, S) := fun g S => by
    unfold f_X11_text_22
    rw [cI_of (by omega) (by omega) (by omega) (by omega), if_neg g]; rfl
  by_cases g0 : a = 0
  · obtain ⟨q, Sc', Sm', a1, a2, a3, aB, a4, a5, a6⟩ := readTrace_both N M H.1 hN hM
    have H' : RelB B Sc' Sm' := RelB.keepN H (fun j hj h74 => a3.2 j (fun q => hj (by have q : j = 1 ∨ j = 54 ∨ j = 55 ∨ (70 ≤ j ∧ j ≤ 74) := q; show j = 1 ∨ j = 19 ∨ j = 23 ∨ (54 ≤ j ∧ j ≤ 73) ∨ (75 ≤ j ∧ j ≤ 81); omega))) (H.ch.bt aB) (KM.ofT a4 (fun j q => by have q : 2 ≤ j ∧ j ≤ 5 := q; omega) (fun k q => q) (fun k _ => by rw [(a4.1 6 (by decide) (by decide)).1]) (fun k _ => by rw [(a4.1 7 (by decide) (by decide)).1]))
    have h8' := H'.2.1.1
    by_cases gq : q = -1
    · obtain ⟨g', T, hg'⟩ := a6 gq
      obtain ⟨v, Sc2, Sm2, b1, b2, b3⟩ := take_both N M (by omega) (by omega) H' T hg'
      refine ⟨v, Sc2, Sm2, ?_, ?_, b3⟩
      · unfold f_X10_text
        rw [cI_of (by omega) (by omega) (by omega) (by omega), if_pos g0, a1, bI_of, cI_of (by omega) (by omega) (by omega) (by omega), if_pos gq, b1]; rfl
      · unfold f_X11_text
        rw [cI_of (by omega) (by omega) (by omega) (by omega), if_pos g0, a2, bI_of, cI_of (by omega) (by omega) (by omega) (by omega), if_pos gq]
        unfold uI
        dsimp only
        rw [b2]; rfl
    · refine ⟨-1, Sc', Sm', ?_, ?_, H'.up (by omega)⟩
      · unfold f_X10_text
        rw [cI_of (by omega) (by omega) (by omega) (by omega), if_pos g0, a1, bI_of, cI_of (by omega) (by omega) (by omega) (by omega), if_neg gq]
        unfold f_X10_text_28 gI
        dsimp only
        rw [cI_of (by omega) (by omega) (by omega) (by omega), e41 (by omega), e41 (by omega)]
        by_cases g4 : 4 ≤ Sc'.1 0 8
        · rw [if_pos g4]
        · rw [if_neg g4]
      · unfold f_X11_text
        rw [cI_of (by omega) (by omega) (by omega) (by omega), if_pos g0, a2, bI_of, cI_of (by omega) (by omega) (by omega) (by omega), if_neg gq]
        unfold f_X11_text_22
        rw [cI_of (by omega) (by omega) (by omega) (by omega), if_neg (by omega)]; rfl
  have eC : f_X10_text N Sc a = f_X10_text_28 N a Sc := by
    unfold f_X10_text
    rw [cI_of (by omega) (by omega) (by omega) (by omega), if_neg g0]
  have eM : f_X11_text M Sm a = f_X11_text_22 M a Sm := by
    unfold f_X11_text
    rw [cI_of (by omega) (by omega) (by omega) (by omega), if_neg g0]
  rw [eC, eM]
  have e28 : f_X10_text_28 N a Sc = (if 4 ≤ Sc.1 0 8 then f_X10_text_41 N a 0 Sc else f_X10_text_41 N a 1 Sc) := by
    unfold f_X10_text_28 gI
    dsimp only
    rw [cI_of (by omega) (by omega) (by omega) (by omega)]
  rw [e28]
  by_cases g1 : a = 1
  · obtain ⟨n, hn⟩ : ∃ n, n = Sc.1 0 8 := ⟨_, rfl⟩
    rw [← hn] at h8 e21 ⊢
    have m22 : f_X11_text_22 M a Sm = (if 4 ≤ n then rI (-1) Sm else bI (f_X11_readScript M Sm n) fun v40 S40 => cI v40 (-1) (if v40 = (-1) then uI S40 0 2 0 fun S49 => gI S49 0 21 fun v54 => uI S49 0 21 (v54 + 1) fun S59 => gI S59 0 21 fun v63 => rI (v63 - 1) S59 else rI (-1) S40)) := by
      unfold f_X11_text_22 gI
      dsimp only
      rw [cI_of (by omega) (by omega) (by omega) (by omega), if_pos g1, e21, cI_of (by omega) (by omega) (by omega) (by omega)]
    rw [m22]
    by_cases g4 : 4 ≤ n
    · refine ⟨-1, Sc, Sm, ?_, by rw [if_pos g4]; rfl, H.up (by omega)⟩
      rw [if_pos g4]
      unfold f_X10_text_41
      rw [cI_of (by omega) (by omega) (by omega) (by omega), if_pos g1, cI_of (by omega) (by omega) (by omega) (by omega), if_pos rfl]; rfl
    · rw [if_neg g4, if_neg g4]
      obtain ⟨q, Sc1, Sm1, a1, a2, a3, a4, a5, a6, a7, a8⟩ := readScript_both (n := n) N M H.1 (by omega) hN hM
      have fC : ∀ j, ¬ (j = 1 ∨ (75 ≤ j ∧ j ≤ 78)) → Sc1.1 j = Sc.1 j := fun j hj => a3.2 j hj
      have old : ∀ j, 0 ≤ j → j < n → OneS Sc1 Sm1 (scC j) j := fun j x y => by
        have cj : scC j = 32 + 4 * j.toNat := rfl
        obtain ⟨o1, o2, o3⟩ := H.2.1.2.2 j x (by omega)
        refine ⟨by rw [fC _ (by omega)]; exact o1, by rw [fC _ (by omega), a6 j (by omega)]; exact o2, fun i i1 i2 => ?_⟩
        rw [fC (scC j) (by omega)] at i2
        rw [fC _ (by omega), fC _ (by omega), fC _ (by omega), a5 _ (by omega), a5 _ (by omega), a5 _ (by omega)]
        exact o3 i i1 i2
      by_cases gq : q = -1
      · obtain ⟨k', hk', D1, D2, D3⟩ := a8 gq
        have cn : scC n = 32 + 4 * n.toNat := rfl
        obtain ⟨C2, hC2⟩ : ∃ C2, C2 = pC (pC (pC (pI Sc1 (scC n) 0 k') 76 (scC n + 1) 0 0 12) 77 (scC n + 2) 0 0 12) 78 (scC n + 3) 0 0 12 := ⟨_, rfl⟩
        obtain ⟨C3, hC3⟩ : ∃ C3, C3 = pI (pI C2 0 8 (n + 1)) 2 1 0 := ⟨_, rfl⟩
        obtain ⟨M2, hM2⟩ : ∃ M2, M2 = pI (pI Sm1 0 2 0) 0 21 (n + 1) := ⟨_, rfl⟩
        have f2 : ∀ j, ¬ (scC n ≤ j ∧ j ≤ scC n + 3) → C2.1 j = Sc1.1 j := fun j hj => by rw [hC2, pC_row (by omega), pC_row (by omega), pC_row (by omega), pI_row (by omega)]
        have f3 : ∀ j, j ≠ 0 → j ≠ 2 → C3.1 j = C2.1 j := fun j x y => by rw [hC3, pI_row y, pI_row x]
        have e08 : C2.1 0 8 = n := by rw [f2 0 (by omega), fC 0 (by decide)]; exact hn.symm
        have e7 : f_X7_copyFrom N Sc1 (scC n) 75 = some C2 := by
          unfold f_X7_copyFrom gI uI
          dsimp only
          rw [D1, cpI_of (by decide) (by decide) (by decide) (by decide) (by decide), cpI_of (by decide) (by decide) (by decide) (by decide) (by decide), cpI_of (by decide) (by decide) (by decide) (by decide) (by decide), hC2]; rfl
        have c4 : f_X10_takeScript N Sc1 = some (n, C3) := by
          unfold f_X10_takeScript gI uI
          dsimp only
          rw [fC 0 (by decide), ← hn]
          unfold aR
          rw [if_pos (by omega)]
          show bV (f_X7_copyFrom N Sc1 (scC n) 75) _ = _
          rw [e7, bV_of, e08, ← hC3, hC3, pI_row (i := 2) (by decide), pI_eq, show n + 1 - 1 = n by omega]; rfl
        have g21 : Sm1.1 0 21 = n := by rw [a4.2.1 21 (by decide)]; exact e21
        refine ⟨n, C3, M2, ?_, ?_, RelB.up (B := B) (H.mkS ⟨by rw [hC3, pI_eq]; decide, ?_, fun i x y => ?_⟩ ⟨?_, ?_, fun j x y => ?_⟩ (fun j hj => by rw [f3 j (by omega) (by omega), f2 j (by omega), fC j (by omega)]) ?_ ?_ (fun j hj => by rw [hM2, pI_row (by omega), pI_row (by omega), (a4.1 j (by omega) (fun q => by have q : j = 6 ∨ j = 7 := q; omega)).1]) (by rw [hM2]; exact (a4.1 12 (by decide) (by decide)).2) (fun k hk => by rw [hM2, pI_idx (by omega), pI_idx (by omega), a4.2.1 k (fun q => by have q : (3 ≤ k ∧ k ≤ 8) ∨ k = 10 := q; omega)])) (by omega)⟩
        · unfold f_X10_text_41
          rw [cI_of (by omega) (by omega) (by omega) (by omega), if_pos g1, cI_of (by omega) (by omega) (by omega) (by omega), if_neg (by decide), a1, bI_of, cI_of (by omega) (by omega) (by omega) (by omega), if_pos gq, c4]; rfl
        · rw [a2, bI_of, cI_of (by omega) (by omega) (by omega) (by omega), if_pos gq]
          unfold uI gI
          dsimp only
          rw [pI_eq, pI_idx (by decide), g21, ← hM2, show n + 1 - 1 = n by omega]; rfl
        · rw [hM2, pI_idx (by decide), pI_eq, hC3, pI_eq]
        · rw [hC3, pI_eq] at y; omega
        · rw [hC3, pI_row (by decide), pI_eq]; omega
        · rw [hM2, pI_eq, hC3, pI_row (i := 2) (by decide), pI_eq]
        · have y : j < n + 1 := by rw [hC3, pI_row (i := 2) (by decide), pI_eq] at y; exact y
          have cj : scC j = 32 + 4 * j.toNat := rfl
          have m6 : M2.1 6 = Sm1.1 6 := by rw [hM2, pI_row (by decide), pI_row (by decide)]
          have m7 : M2.1 7 = Sm1.1 7 := by rw [hM2, pI_row (by decide), pI_row (by decide)]
          by_cases g : j = n
          · have z0 : C2.1 (scC n) 0 = k' := by rw [hC2, pC_row (by omega), pC_row (by omega), pC_row (by omega), pI_eq]
            have z1 : ∀ i, 0 ≤ i → i < 12 → C2.1 (scC n + 1) i = Sc1.1 76 i := fun i i1 i2 => by rw [hC2, pC_row (by omega), pC_row (by omega), pC_in (by omega) (by omega), show 0 + (i - 0) = i by omega, pI_row (by omega)]
            have z2 : ∀ i, 0 ≤ i → i < 12 → C2.1 (scC n + 2) i = Sc1.1 77 i := fun i i1 i2 => by rw [hC2, pC_row (by omega), pC_in (by omega) (by omega), show 0 + (i - 0) = i by omega, pC_row (by omega), pI_row (by omega)]
            have z3 : ∀ i, 0 ≤ i → i < 12 → C2.1 (scC n + 3) i = Sc1.1 78 i := fun i i1 i2 => by rw [hC2, pC_in (by omega) (by omega), show 0 + (i - 0) = i by omega, pC_row (by omega), pC_row (by omega), pI_row (by omega)]
            rw [g]
            refine ⟨?_, ?_, fun i i1 i2 => ?_⟩
            · rw [f3 _ (by omega) (by omega), z0]; exact hk'
            · rw [f3 _ (by omega) (by omega), z0, m7]; exact D2
            · rw [f3 _ (by omega) (by omega), z0] at i2
              rw [f3 (scC n + 1) (by omega) (by omega), f3 (scC n + 2) (by omega) (by omega), f3 (scC n + 3) (by omega) (by omega), z1 i i1 (by omega), z2 i i1 (by omega), z3 i i1 (by omega), m6]
              exact D3 i i1 i2
          · obtain ⟨o1, o2, o3⟩ := old j x (by omega)
            have w : ∀ i, scC j ≤ i → i ≤ scC j + 3 → C3.1 i = Sc1.1 i := fun i i1 i2 => by rw [f3 i (by omega) (by omega), f2 i (by omega)]
            refine ⟨by rw [w _ (by omega) (by omega)]; exact o1, by rw [w _ (by omega) (by omega), m7]; exact o2, fun i i1 i2 => ?_⟩
            rw [w _ (by omega) (by omega)] at i2
            rw [w _ (by omega) (by omega), w _ (by omega) (by omega), w _ (by omega) (by omega), m6]
            exact o3 i i1 i2
        · rw [hC3, pI_row (i := 2) (by decide), pI_idx (by decide), f2 0 (by omega), fC 0 (by decide)]
        · rw [hC3, pI_row (i := 2) (by decide), pI_idx (by decide), f2 0 (by omega), fC 0 (by decide)]
      · refine ⟨-1, Sc1, Sm1, ?_, ?_, RelB.up (B := B) (H.mkS (H.1.keep (fun j hj => fC j (by omega)) (a4.1 1 (by decide) (by decide)).1 (a4.2.1 2 (by decide))) ⟨by rw [fC 0 (by decide), ← hn]; exact h8, by rw [fC 0 (by decide), a4.2.1 21 (by decide), ← hn]; exact e21, fun j x y => old j x (by rw [fC 0 (by decide), ← hn] at y; exact y)⟩ (fun j hj => fC j (by omega)) (by rw [fC 0 (by decide)]) (by rw [fC 0 (by decide)]) (fun j hj => (a4.1 j (by omega) (fun q => by have q : j = 6 ∨ j = 7 := q; omega)).1) (a4.1 12 (by decide) (by decide)).2 (fun k hk => a4.2.1 k (fun q => by have q : (3 ≤ k ∧ k ≤ 8) ∨ k = 10 := q; omega))) (by omega)⟩
        · unfold f_X10_text_41
          rw [cI_of (by omega) (by omega) (by omega) (by omega), if_pos g1, cI_of (by omega) (by omega) (by omega) (by omega), if_neg (by decide), a1, bI_of, cI_of (by omega) (by omega) (by omega) (by omega), if_neg gq]; rfl
        · rw [a2, bI_of, cI_of (by omega) (by omega) (by omega) (by omega), if_neg gq]; rfl
  · refine ⟨-1, Sc, Sm, ?_, e22 g1 Sm, H.up (by omega)⟩
    by_cases g4 : 4 ≤ Sc.1 0 8
    · rw [if_pos g4, e41 g1]
    · rw [if_neg g4, e41 g1]
theorem op_text (hB : B ≤ 50000) : Op_text (RelB B) (RelB (B + 40)) := fun Sc Sm H a ha => ⟨1500, 1500, text_both 1500 1500 (by decide) (by decide) H ha⟩
end TEXT
