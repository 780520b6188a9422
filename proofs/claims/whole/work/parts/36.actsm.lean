/-! the reference's curve: what acts do to it -/
section ACTSM
variable {S : S2} {n z : Int} {s : Int → Int}
theorem cntF_congr {p q : Int → Prop} [DecidablePred p] [DecidablePred q] (d : Nat) (i a : Int) (h : ∀ j, i ≤ j → j < i + d → (p j ↔ q j)) : cntF p d i a = cntF q d i a :=
  fld_congr d i a (fun b j h1 h2 => by
    by_cases g : p j
    · rw [if_pos g, if_pos ((h j h1 h2).mp g)]
    · rw [if_neg g, if_neg (fun x => g ((h j h1 h2).mpr x))])
theorem capS_b {a : Int} (hb : CvB n s) (h : 0 ≤ a) : CvB n (capS s a) := fun i p q => by have := hb i p q; unfold capS; omega
theorem clips_loop {a : Int} (hb : CvB n s) (hn : n ≤ 48) (h1 : 0 ≤ a) (h2 : a ≤ 999) : ∀ (d N : Nat) (i : Int) (S : S2), 0 ≤ i → i + d = n → d < N → CvM S 8 n (fun j => if j < i then capS s a j else s j) z → ∃ S', (∀ k, f_X11_clips_6 k N a i S = k S') ∧ CvM S' 8 n (capS s a) z ∧ FrL is8 S S' := by
  intro d
  induction d with
  | zero =>
    intro N i S h0 hi hN hc
    obtain ⟨N, rfl⟩ : ∃ M, N = M + 1 := ⟨N - 1, by omega⟩
    refine ⟨S, fun k => ?_, hc.congr (fun j a b => if_pos (by omega)), FrL.refl⟩
    rw [f_X11_clips_6]
    simp (disch := omega) only [many_of N hc, gI, uI, cI_of, aI_of, sI_of, mnI_of, mxI_of, abI_of, dvI_of, rmI_of, bI_of, bV_of, rI, rV, rL, rP, rT, rZ_of, rC_of, if_pos, if_neg, if_true, if_false]
  | succ d ih =>
    intro N i S h0 hi hN hc
    obtain ⟨N, rfl⟩ : ∃ M, N = M + 1 := ⟨N - 1, by omega⟩
    have e := hc.2.2 i h0 (by omega)
    dsimp only at e
    rw [if_neg (by omega)] at e
    have hb1 := hb i h0 (by omega)
    obtain ⟨S', e1, e2, e3⟩ := ih N (i + 1) (pI S 8 i (capS s a i)) (by omega) (by omega) (by omega) (layM_next hc (by omega))
    refine ⟨S', fun k => ?_, e2, (FrL.refl.pI (A := is8) rfl (by omega)).trans e3 (fun _ h => h) (fun _ h => h)⟩
    rw [f_X11_clips_6]
    simp (disch := omega) only [many_of N hc, e, gI, uI, cI_of, aI_of, sI_of, mnI_of, mxI_of, abI_of, dvI_of, rmI_of, bI_of, bV_of, rI, rV, rL, rP, rT, rZ_of, rC_of, if_pos, if_neg, if_true, if_false]
    exact e1 k
theorem clips_of (N : Nat) (hc : CvM S 8 n s z) (hb : CvB n s) (h0 : 0 ≤ n) (hn : n ≤ 48) {a : Int} (h1 : 0 ≤ a) (h2 : a ≤ 999) (hN : 100 ≤ N) : ∃ S', f_X11_clips N S a = some (cntF (fun i => a < s i) n.toNat 0 0, S') ∧ CvM S' 8 n (capS s a) z ∧ FrL is8_22 S S' := by
  obtain ⟨S1, a1, a2, a3, a4⟩ := keepWas_of N hc hn hN
  obtain ⟨S', e1, e2, e3⟩ := clips_loop (z := z) hb hn h1 h2 n.toNat N 0 S1 (by omega) (by omega) (by omega) (a3.congr (fun j a b => by rw [if_neg (by omega)]))
  refine ⟨S', ?_, e2, (FrL.of22 a4 (by decide)).trans e3 (fun _ h => Or.inr h) (fun _ h => Or.inl h)⟩
  unfold f_X11_clips
  simp (disch := omega) only [a1, gI, uI, cI_of, aI_of, sI_of, mnI_of, mxI_of, abI_of, dvI_of, rmI_of, bI_of, bV_of, rI, rV, rL, rP, rT, rZ_of, rC_of, if_pos, if_neg, if_true, if_false]
  rw [e1]
  simp (disch := omega) only [f_X11_clips_36, fell_of N e2 (a2.kept e3.1 (by decide)) hb (capS_b hb h1) h0 hn hN, gI, uI, cI_of, aI_of, sI_of, mnI_of, mxI_of, abI_of, dvI_of, rmI_of, bI_of, bV_of, rI, rV, rL, rP, rT, rZ_of, rC_of, if_pos, if_neg, if_true, if_false]
  rw [cntF_congr (p := fun i => capS s a i < s i) (q := fun i => a < s i) n.toNat 0 0 (fun j p q => by unfold capS; omega)]
theorem turns_loop (hn : n ≤ 48) : ∀ (d N : Nat) (i : Int) (S : S2), 0 ≤ i → i + d = n → d < N → WasM S n s → CvM S 8 n (fun j => if j < i then turnS s n j else s j) z → ∃ S', (∀ k, f_X11_turns_6 k N i S = k S') ∧ CvM S' 8 n (turnS s n) z ∧ FrL is8 S S' := by
  intro d
  induction d with
  | zero =>
    intro N i S h0 hi hN hw hc
    obtain ⟨N, rfl⟩ : ∃ M, N = M + 1 := ⟨N - 1, by omega⟩
    refine ⟨S, fun k => ?_, hc.congr (fun j a b => if_pos (by omega)), FrL.refl⟩
    rw [f_X11_turns_6]
    simp (disch := omega) only [many_of N hc, gI, uI, cI_of, aI_of, sI_of, mnI_of, mxI_of, abI_of, dvI_of, rmI_of, bI_of, bV_of, rI, rV, rL, rP, rT, rZ_of, rC_of, if_pos, if_neg, if_true, if_false]
  | succ d ih =>
    intro N i S h0 hi hN hw hc
    obtain ⟨N, rfl⟩ : ∃ M, N = M + 1 := ⟨N - 1, by omega⟩
    have e := hw (n - 1 - i) (by omega) (by omega)
    have fr : FrL is8 S (pI S 8 i (turnS s n i)) := FrL.refl.pI rfl (by omega)
    obtain ⟨S', e1, e2, e3⟩ := ih N (i + 1) (pI S 8 i (turnS s n i)) (by omega) (by omega) (by omega) (hw.kept fr.1 (by decide)) (layM_next hc (by omega))
    refine ⟨S', fun k => ?_, e2, fr.trans e3 (fun _ h => h) (fun _ h => h)⟩
    rw [f_X11_turns_6]
    simp (disch := omega) only [many_of N hc, e, gI, uI, cI_of, aI_of, sI_of, mnI_of, mxI_of, abI_of, dvI_of, rmI_of, bI_of, bV_of, rI, rV, rL, rP, rT, rZ_of, rC_of, if_pos, if_neg, if_true, if_false]
    exact e1 k
theorem turns_of (N : Nat) (hc : CvM S 8 n s z) (h0 : 1 ≤ n) (hn : n ≤ 48) (hN : 100 ≤ N) : ∃ S', f_X11_turns N S = some (s (n - 1), S') ∧ CvM S' 8 n (turnS s n) z ∧ FrL is8_22 S S' := by
  obtain ⟨S1, a1, a2, a3, a4⟩ := keepWas_of N hc hn hN
  obtain ⟨S', e1, e2, e3⟩ := turns_loop (z := z) hn n.toNat N 0 S1 (by omega) (by omega) (by omega) a2 (a3.congr (fun j a b => by rw [if_neg (by omega)]))
  refine ⟨S', ?_, e2, (FrL.of22 a4 (by decide)).trans e3 (fun _ h => Or.inr h) (fun _ h => Or.inl h)⟩
  have e := e2.2.2 0 (by omega) (by omega)
  unfold f_X11_turns
  simp (disch := omega) only [a1, gI, uI, cI_of, aI_of, sI_of, mnI_of, mxI_of, abI_of, dvI_of, rmI_of, bI_of, bV_of, rI, rV, rL, rP, rT, rZ_of, rC_of, if_pos, if_neg, if_true, if_false]
  rw [e1]
  simp (disch := omega) only [f_X11_turns_39, e, gI, uI, cI_of, aI_of, sI_of, mnI_of, mxI_of, abI_of, dvI_of, rmI_of, bI_of, bV_of, rI, rV, rL, rP, rT, rZ_of, rC_of, if_pos, if_neg, if_true, if_false]
  show some (s (n - 1 - 0), S') = _
  rw [show n - 1 - 0 = n - 1 by omega]
theorem lifts_loop {a : Int} (hb : CvB n s) (hn : n ≤ 48) (h1 : -2000 ≤ a) (h2 : a ≤ 2000) : ∀ (d N : Nat) (i : Int) (S : S2), 0 ≤ i → i + d = n → d < N → CvM S 8 n (fun j => if j < i then liftS s a j else s j) z → ∃ S', (∀ k, f_X11_lifts_2 k N a i S = k S') ∧ CvM S' 8 n (liftS s a) z ∧ FrL is8 S S' := by
  intro d
  induction d with
  | zero =>
    intro N i S h0 hi hN hc
    obtain ⟨N, rfl⟩ : ∃ M, N = M + 1 := ⟨N - 1, by omega⟩
    refine ⟨S, fun k => ?_, hc.congr (fun j a b => if_pos (by omega)), FrL.refl⟩
    rw [f_X11_lifts_2]
    simp (disch := omega) only [many_of N hc, gI, uI, cI_of, aI_of, sI_of, mnI_of, mxI_of, abI_of, dvI_of, rmI_of, bI_of, bV_of, rI, rV, rL, rP, rT, rZ_of, rC_of, if_pos, if_neg, if_true, if_false]
  | succ d ih =>
    intro N i S h0 hi hN hc
    obtain ⟨N, rfl⟩ : ∃ M, N = M + 1 := ⟨N - 1, by omega⟩
    have e := hc.2.2 i h0 (by omega)
    dsimp only at e
    rw [if_neg (by omega)] at e
    have hb1 := hb i h0 (by omega)
    obtain ⟨S', e1, e2, e3⟩ := ih N (i + 1) (pI S 8 i (liftS s a i)) (by omega) (by omega) (by omega) (layM_next hc (by omega))
    refine ⟨S', fun k => ?_, e2, (FrL.refl.pI (A := is8) rfl (by omega)).trans e3 (fun _ h => h) (fun _ h => h)⟩
    rw [f_X11_lifts_2]
    simp (disch := omega) only [many_of N hc, e, gI, uI, cI_of, aI_of, sI_of, mnI_of, mxI_of, abI_of, dvI_of, rmI_of, bI_of, bV_of, rI, rV, rL, rP, rT, rZ_of, rC_of, if_pos, if_neg, if_true, if_false]
    exact e1 k
theorem lifts_of (N : Nat) (hc : CvM S 8 n s z) (hb : CvB n s) (h0 : 1 ≤ n) (hn : n ≤ 48) {a : Int} (h1 : -2000 ≤ a) (h2 : a ≤ 2000) (hN : 100 ≤ N) : ∃ S', f_X11_lifts N S a = some (minF (liftS s a) n.toNat 0 999, S') ∧ CvM S' 8 n (liftS s a) z ∧ FrL is8 S S' := by
  obtain ⟨S', e1, e2, e3⟩ := lifts_loop (z := z) hb hn h1 h2 n.toNat N 0 S (by omega) (by omega) (by omega) (hc.congr (fun j a b => by rw [if_neg (by omega)]))
  refine ⟨S', ?_, e2, e3⟩
  unfold f_X11_lifts
  rw [e1]
  simp (disch := omega) only [f_X11_lifts_40, leastM_of N e2 liftS_b h0 hn hN, gI, uI, cI_of, aI_of, sI_of, mnI_of, mxI_of, abI_of, dvI_of, rmI_of, bI_of, bV_of, rI, rV, rL, rP, rT, rZ_of, rC_of, if_pos, if_neg, if_true, if_false]
theorem scales_loop {a b : Int} (hb : CvB n s) (hn : n ≤ 48) (h1 : 0 ≤ a) (h2 : a ≤ 99) (h3 : 1 ≤ b) (h4 : b ≤ 99) : ∀ (d N : Nat) (i : Int) (S : S2), 0 ≤ i → i + d = n → d < N → CvM S 8 n (fun j => if j < i then scaleS s a b j else s j) z → ∃ S', (∀ k, f_X11_scales_2 k N a b i S = k S') ∧ CvM S' 8 n (scaleS s a b) z ∧ FrL is8 S S' := by
  intro d
  induction d with
  | zero =>
    intro N i S h0 hi hN hc
    obtain ⟨N, rfl⟩ : ∃ M, N = M + 1 := ⟨N - 1, by omega⟩
    refine ⟨S, fun k => ?_, hc.congr (fun j a b => if_pos (by omega)), FrL.refl⟩
    rw [f_X11_scales_2]
    simp (disch := omega) only [many_of N hc, gI, uI, cI_of, aI_of, sI_of, mnI_of, mxI_of, abI_of, dvI_of, rmI_of, bI_of, bV_of, rI, rV, rL, rP, rT, rZ_of, rC_of, if_pos, if_neg, if_true, if_false]
  | succ d ih =>
    intro N i S h0 hi hN hc
    obtain ⟨N, rfl⟩ : ∃ M, N = M + 1 := ⟨N - 1, by omega⟩
    have e := hc.2.2 i h0 (by omega)
    dsimp only at e
    rw [if_neg (by omega)] at e
    have hb1 := hb i h0 (by omega)
    have g2 := mul_bd hb1.1 hb1.2 h1 h2
    have g3 : 0 ≤ s i * a / b := Int.ediv_nonneg g2.1 (by omega)
    have g4 : s i * a / b ≤ s i * a := Int.ediv_le_self _ g2.1
    obtain ⟨S', e1, e2, e3⟩ := ih N (i + 1) (pI S 8 i (scaleS s a b i)) (by omega) (by omega) (by omega) (layM_next hc (by omega))
    refine ⟨S', fun k => ?_, e2, (FrL.refl.pI (A := is8) rfl (by omega)).trans e3 (fun _ h => h) (fun _ h => h)⟩
    rw [f_X11_scales_2]
    simp (disch := omega) only [many_of N hc, e, gI, uI, cI_of, aI_of, sI_of, mnI_of, mxI_of, abI_of, dvI_of, rmI_of, bI_of, bV_of, rI, rV, rL, rP, rT, rZ_of, rC_of, if_pos, if_neg, if_true, if_false]
    exact e1 k
theorem scales_of (N : Nat) (hc : CvM S 8 n s z) (hb : CvB n s) (h0 : 0 ≤ n) (hn : n ≤ 48) {a b : Int} (h1 : 0 ≤ a) (h2 : a ≤ 99) (h3 : 1 ≤ b) (h4 : b ≤ 99) (hN : 100 ≤ N) : ∃ S', f_X11_scales N S a b = some (maxF (scaleS s a b) n.toNat 0 0, S') ∧ CvM S' 8 n (scaleS s a b) z ∧ FrL is8 S S' := by
  obtain ⟨S', e1, e2, e3⟩ := scales_loop (z := z) hb hn h1 h2 h3 h4 n.toNat N 0 S (by omega) (by omega) (by omega) (hc.congr (fun j a b => by rw [if_neg (by omega)]))
  refine ⟨S', ?_, e2, e3⟩
  unfold f_X11_scales
  rw [e1]
  simp (disch := omega) only [f_X11_scales_38, greatestM_of N e2 (scaleS_b hb h1 h2 h3) h0 hn hN, gI, uI, cI_of, aI_of, sI_of, mnI_of, mxI_of, abI_of, dvI_of, rmI_of, bI_of, bV_of, rI, rV, rL, rP, rT, rZ_of, rC_of, if_pos, if_neg, if_true, if_false]
theorem sets_of (N : Nat) (hc : CvM S 8 n s z) (hn : n ≤ 48) {p v : Int} (h1 : 0 ≤ p) (h2 : p < n) : f_X11_sets N S p v = some (s p, pI S 8 p v) := by
  unfold f_X11_sets
  have e := hc.2.2 p h1 h2
  simp (disch := omega) only [e, gI, uI, cI_of, aI_of, sI_of, mnI_of, mxI_of, abI_of, dvI_of, rmI_of, bI_of, bV_of, rI, rV, rL, rP, rT, rZ_of, rC_of, if_pos, if_neg, if_true, if_false]
theorem cuts_loop {p k : Int} (hn : n ≤ 48) (h1 : 0 ≤ p) (h2 : 0 ≤ k) (h3 : p + k ≤ n) : ∀ (d N : Nat) (i : Int) (S : S2), 0 ≤ i → i + d = 48 → d < N → WasM S n s → (∀ j, 0 ≤ j → j < i → j < k → S.1 8 j = s (p + j)) → ∃ S', (∀ K, f_X11_cuts_6 K N p k i S = K k S') ∧ (∀ j, 0 ≤ j → j < k → S'.1 8 j = s (p + j)) ∧ (∀ j, 48 ≤ j → S'.1 8 j = S.1 8 j) ∧ Fr is8 S S' := by
  intro d
  induction d with
  | zero =>
    intro N i S h0 hi hN hw hc
    obtain ⟨N, rfl⟩ : ∃ M, N = M + 1 := ⟨N - 1, by omega⟩
    refine ⟨S, fun K => ?_, fun j a b => hc j a (by omega) b, fun _ _ => rfl, Fr.refl⟩
    rw [f_X11_cuts_6]
    simp (disch := omega) only [gI, uI, cI_of, aI_of, sI_of, mnI_of, mxI_of, abI_of, dvI_of, rmI_of, bI_of, bV_of, rI, rV, rL, rP, rT, rZ_of, rC_of, if_pos, if_neg, if_true, if_false]
  | succ d ih =>
    intro N i S h0 hi hN hw hc
    obtain ⟨N, rfl⟩ : ∃ M, N = M + 1 := ⟨N - 1, by omega⟩
    by_cases h : k ≤ i
    · have fr : Fr is8 S (pI S 8 i 0) := Fr.refl.pI rfl
      obtain ⟨S', e1, e2, e3, e4⟩ := ih N (i + 1) (pI S 8 i 0) (by omega) (by omega) (by omega) (hw.kept fr (by decide)) (fun j a b c => by rw [pI_idx (by omega)]; exact hc j a (by omega) c)
      refine ⟨S', fun K => ?_, e2, fun j a => by rw [e3 j a, pI_idx (by omega)], fr.trans e4 (fun _ h => h) (fun _ h => h)⟩
      rw [f_X11_cuts_6]
      simp (disch := omega) only [f_X11_cuts_34, gI, uI, cI_of, aI_of, sI_of, mnI_of, mxI_of, abI_of, dvI_of, rmI_of, bI_of, bV_of, rI, rV, rL, rP, rT, rZ_of, rC_of, if_pos, if_neg, if_true, if_false]
      exact e1 K
    · have e := hw (p + i) (by omega) (by omega)
      have fr : Fr is8 S (pI S 8 i (s (p + i))) := Fr.refl.pI rfl
      obtain ⟨S', e1, e2, e3, e4⟩ := ih N (i + 1) (pI S 8 i (s (p + i))) (by omega) (by omega) (by omega) (hw.kept fr (by decide)) (fun j a b c => by
        rw [pI_at]
        by_cases q : j = i
        · rw [if_pos q, q]
        · rw [if_neg q]; exact hc j a (by omega) c)
      refine ⟨S', fun K => ?_, e2, fun j a => by rw [e3 j a, pI_idx (by omega)], fr.trans e4 (fun _ h => h) (fun _ h => h)⟩
      rw [f_X11_cuts_6]
      simp (disch := omega) only [f_X11_cuts_34, e, gI, uI, cI_of, aI_of, sI_of, mnI_of, mxI_of, abI_of, dvI_of, rmI_of, bI_of, bV_of, rI, rV, rL, rP, rT, rZ_of, rC_of, if_pos, if_neg, if_true, if_false]
      exact e1 K
theorem cuts_of (N : Nat) (hc : CvM S 8 n s z) (hn : n ≤ 48) {p k : Int} (h1 : 0 ≤ p) (h2 : 1 ≤ k) (h3 : p + k ≤ n) (hN : 100 ≤ N) : ∃ S', f_X11_cuts N S p k = some (n - k, S') ∧ CvM S' 8 k (cutS s p) z ∧ Fr is8_22 S S' ∧ (∀ j, 49 ≤ j → S'.1 8 j = S.1 8 j) := by
  obtain ⟨S1, a1, a2, a3, a4⟩ := keepWas_of N hc hn hN
  obtain ⟨S', e1, e2, e3, e4⟩ := cuts_loop hn h1 (by omega) h3 48 N 0 S1 (by omega) (by omega) (by omega) a2 (fun j a b => by omega)
  have hm : CvM S' 8 n (fun j => S'.1 8 j) z := ⟨by rw [e3 48 (by omega)]; exact a3.1, by rw [e3 49 (by omega)]; exact a3.2.1, fun j _ _ => rfl⟩
  refine ⟨pI S' 8 48 k, ?_, ⟨pI_eq, by rw [pI_idx (by omega)]; exact hm.2.1, fun j a b => by rw [pI_idx (by omega), e2 j a b]; rfl⟩, (a4.trans e4 (fun _ h => Or.inr h) (fun _ h => Or.inl h)).pI (Or.inl rfl), fun j a => by rw [pI_idx (by omega), e3 j (by omega), a4.at (by decide)]⟩
  unfold f_X11_cuts
  simp (disch := omega) only [a1, gI, uI, cI_of, aI_of, sI_of, mnI_of, mxI_of, abI_of, dvI_of, rmI_of, bI_of, bV_of, rI, rV, rL, rP, rT, rZ_of, rC_of, if_pos, if_neg, if_true, if_false]
  rw [e1]
  simp (disch := omega) only [f_X11_cuts_41, many_of N hm, gI, uI, cI_of, aI_of, sI_of, mnI_of, mxI_of, abI_of, dvI_of, rmI_of, bI_of, bV_of, rI, rV, rL, rP, rT, rZ_of, rC_of, if_pos, if_neg, if_true, if_false]
theorem whyNot_of (N : Nat) (hc : CvM S 8 n s z) (ht : S.1 0 29 = 1) (h0 : 1 ≤ n) (hn : n ≤ 48) {sort a b : Int} (hs1 : -2147483648 ≤ sort) (hs2 : sort ≤ 2147483647) (h1 : -2147483648 ≤ a) (h2 : a ≤ 2147483647) (h3 : -2147483648 ≤ b) (h4 : b ≤ 2147483647) : f_X11_whyNot N S sort a b = some (rfF n sort a b, S) := by
  unfold f_X11_whyNot rfF bnI
  by_cases g4 : sort = 4
  · by_cases x : 0 ≤ a ∧ a ≤ 999
    · simp (disch := omega) only [ht, in_y N, gI, uI, cI_of, aI_of, sI_of, mnI_of, mxI_of, abI_of, dvI_of, rmI_of, bI_of, bV_of, rI, rV, rL, rP, rT, rZ_of, rC_of, if_pos, if_neg, if_true, if_false]
    · simp (disch := omega) only [ht, in_n N, gI, uI, cI_of, aI_of, sI_of, mnI_of, mxI_of, abI_of, dvI_of, rmI_of, bI_of, bV_of, rI, rV, rL, rP, rT, rZ_of, rC_of, if_pos, if_neg, if_true, if_false]
  by_cases g5 : sort = 5
  · by_cases x : -999 ≤ a ∧ a ≤ 999
    · simp (disch := omega) only [ht, in_y N, gI, uI, cI_of, aI_of, sI_of, mnI_of, mxI_of, abI_of, dvI_of, rmI_of, bI_of, bV_of, rI, rV, rL, rP, rT, rZ_of, rC_of, if_pos, if_neg, if_true, if_false]
    · simp (disch := omega) only [ht, in_n N, gI, uI, cI_of, aI_of, sI_of, mnI_of, mxI_of, abI_of, dvI_of, rmI_of, bI_of, bV_of, rI, rV, rL, rP, rT, rZ_of, rC_of, if_pos, if_neg, if_true, if_false]
  by_cases g6 : sort = 6
  · by_cases x : 0 ≤ a ∧ a ≤ 99
    · by_cases y : 1 ≤ b ∧ b ≤ 99
      · simp (disch := omega) only [ht, in_y N, gI, uI, cI_of, aI_of, sI_of, mnI_of, mxI_of, abI_of, dvI_of, rmI_of, bI_of, bV_of, rI, rV, rL, rP, rT, rZ_of, rC_of, if_pos, if_neg, if_true, if_false]
      · simp (disch := omega) only [ht, in_y N, in_n N, gI, uI, cI_of, aI_of, sI_of, mnI_of, mxI_of, abI_of, dvI_of, rmI_of, bI_of, bV_of, rI, rV, rL, rP, rT, rZ_of, rC_of, if_pos, if_neg, if_true, if_false]
    · simp (disch := omega) only [ht, in_n N, gI, uI, cI_of, aI_of, sI_of, mnI_of, mxI_of, abI_of, dvI_of, rmI_of, bI_of, bV_of, rI, rV, rL, rP, rT, rZ_of, rC_of, if_pos, if_neg, if_true, if_false]
  by_cases g7 : sort = 7
  · by_cases x : 0 ≤ a ∧ a < n
    · by_cases y : 0 ≤ b ∧ b ≤ 999
      · simp (disch := omega) only [ht, isPlace_y N hc ht hn, in_y N, gI, uI, cI_of, aI_of, sI_of, mnI_of, mxI_of, abI_of, dvI_of, rmI_of, bI_of, bV_of, rI, rV, rL, rP, rT, rZ_of, rC_of, if_pos, if_neg, if_true, if_false]
      · simp (disch := omega) only [ht, isPlace_y N hc ht hn, in_n N, gI, uI, cI_of, aI_of, sI_of, mnI_of, mxI_of, abI_of, dvI_of, rmI_of, bI_of, bV_of, rI, rV, rL, rP, rT, rZ_of, rC_of, if_pos, if_neg, if_true, if_false]
    · simp (disch := omega) only [ht, isPlace_n N hc ht (by omega) hn, gI, uI, cI_of, aI_of, sI_of, mnI_of, mxI_of, abI_of, dvI_of, rmI_of, bI_of, bV_of, rI, rV, rL, rP, rT, rZ_of, rC_of, if_pos, if_neg, if_true, if_false]
  by_cases g8 : sort = 8
  · by_cases x : 0 ≤ a ∧ a ≤ 999
    · simp (disch := omega) only [ht, in_y N, gI, uI, cI_of, aI_of, sI_of, mnI_of, mxI_of, abI_of, dvI_of, rmI_of, bI_of, bV_of, rI, rV, rL, rP, rT, rZ_of, rC_of, if_pos, if_neg, if_true, if_false]
    · simp (disch := omega) only [ht, in_n N, gI, uI, cI_of, aI_of, sI_of, mnI_of, mxI_of, abI_of, dvI_of, rmI_of, bI_of, bV_of, rI, rV, rL, rP, rT, rZ_of, rC_of, if_pos, if_neg, if_true, if_false]
  by_cases g9 : sort = 9
  · by_cases x : 0 ≤ a ∧ a < n
    · by_cases y : 1 ≤ b ∧ b ≤ n - a
      · simp (disch := omega) only [ht, isPlace_y N hc ht hn, many_of N hc, in_y N, gI, uI, cI_of, aI_of, sI_of, mnI_of, mxI_of, abI_of, dvI_of, rmI_of, bI_of, bV_of, rI, rV, rL, rP, rT, rZ_of, rC_of, if_pos, if_neg, if_true, if_false]
      · simp (disch := omega) only [ht, isPlace_y N hc ht hn, many_of N hc, in_n N, gI, uI, cI_of, aI_of, sI_of, mnI_of, mxI_of, abI_of, dvI_of, rmI_of, bI_of, bV_of, rI, rV, rL, rP, rT, rZ_of, rC_of, if_pos, if_neg, if_true, if_false]
    · simp (disch := omega) only [ht, isPlace_n N hc ht (by omega) hn, gI, uI, cI_of, aI_of, sI_of, mnI_of, mxI_of, abI_of, dvI_of, rmI_of, bI_of, bV_of, rI, rV, rL, rP, rT, rZ_of, rC_of, if_pos, if_neg, if_true, if_false]
  simp (disch := omega) only [ht, gI, uI, cI_of, aI_of, sI_of, mnI_of, mxI_of, abI_of, dvI_of, rmI_of, bI_of, bV_of, rI, rV, rL, rP, rT, rZ_of, rC_of, if_pos, if_neg, if_true, if_false]
theorem whyNot_0 (N : Nat) (ht : S.1 0 29 = 0) {sort a b : Int} : f_X11_whyNot N S sort a b = some (0, S) := by
  unfold f_X11_whyNot
  simp (disch := omega) only [ht, gI, uI, cI_of, aI_of, sI_of, mnI_of, mxI_of, abI_of, dvI_of, rmI_of, bI_of, bV_of, rI, rV, rL, rP, rT, rZ_of, rC_of, if_pos, if_neg, if_true, if_false]
end ACTSM
