/-! the reference's numbers, and what is kept -/
abbrev is18 : Nat → Prop := fun j => j = 18
abbrev noF : Int → Prop := fun _ => False
section FINDSM
variable {S : S2} {n z : Int} {s w : Int → Int}
theorem MP0.kept {A : Nat → Prop} {F : Int → Prop} {S' : S2} (h : MP0 S n s) (f : FrM A F S S') (h1 : ¬ A 13) (h2 : ¬ A 14) (h3 : ¬ A 15) (h4 : ¬ A 16) (h5 : ¬ F 35) : MP0 S' n s := ⟨by rw [f.2.2 35 h5]; exact h.1, fun c a b => by rw [f.2.1 13 (by decide) h1, f.2.1 14 (by decide) h2, f.2.1 16 (by decide) h4, f.2.1 15 (by decide) h3]; exact h.2 c a b⟩
theorem lifeM_of (N : Nat) (hp : MP0 S n s) (hc : CvM S 8 n s z) (h0 : 1 ≤ n) (hn : n ≤ 48) (hb : CvB n s) {c : Int} (h1 : 0 ≤ c) (h2 : c < pkC n s) : f_X11_lifeOf N S c = some (pkL n s c, S) := by
  obtain ⟨p1, p2, -⟩ := pk_facts h0 hn hb
  have g := (p2 c h1 h2).1
  obtain ⟨e13, -, -, e15⟩ := hp.2 c h1 h2
  have es := hc.2.2 _ g.1 g.2
  unfold f_X11_lifeOf
  simp (disch := omega) only [e13, e15, es, gI, uI, cI_of, aI_of, sI_of, mnI_of, mxI_of, abI_of, dvI_of, rmI_of, bI_of, bV_of, rI, rV, rL, rP, rT, rZ_of, rC_of, if_pos, if_neg, if_true, if_false]
  rfl
theorem whichIn {i : Int} (h0 : 1 ≤ n) (hn : n ≤ 48) (hb : CvB n s) (hi0 : 1 ≤ i) (hi : i < pkC n s) (hw : ∀ j, 1 ≤ j → j < i → 1 ≤ w j ∧ w j < i) : ∀ (d N : Nat) (k : Int) (S : S2), k = d + 1 → k ≤ i → d < N → MP0 S n s → CvM S 8 n s z → (∀ j, 1 ≤ j → j < k → S.1 18 j = w j) → S.1 18 0 = 0 → (∀ j, k < j → j ≤ i → S.1 18 j = w (j - 1)) → (∀ j, k ≤ j → j < i → ahd (pkL n s) (pkP n s) i (w j)) → ∃ S' k', (∀ K, f_X11_finds_16 K N i k S = K i k' S') ∧ 1 ≤ k' ∧ k' ≤ i ∧ (∀ j, 1 ≤ j → j < k' → S'.1 18 j = w j) ∧ S'.1 18 0 = 0 ∧ (∀ j, k' < j → j ≤ i → S'.1 18 j = w (j - 1)) ∧ (∀ j, k' ≤ j → j < i → ahd (pkL n s) (pkP n s) i (w j)) ∧ (k' = 1 ∨ ahd (pkL n s) (pkP n s) (w (k' - 1)) i) ∧ FrM is18 noF S S' := by
  obtain ⟨p1, p2, p3, -⟩ := pk_facts h0 hn hb
  intro d
  induction d with
  | zero =>
    intro N k S hk hki hN hp hc h1 hz h2 h3
    obtain ⟨N, rfl⟩ : ∃ M, N = M + 1 := ⟨N - 1, by omega⟩
    have hk : k = 1 := hk
    refine ⟨S, k, fun K => ?_, by omega, hki, h1, hz, h2, h3, Or.inl hk, FrM.refl⟩
    rw [f_X11_finds_16]
    simp (disch := omega) only [gI, uI, cI_of, aI_of, sI_of, mnI_of, mxI_of, abI_of, dvI_of, rmI_of, bI_of, bV_of, rI, rV, rL, rP, rT, rZ_of, rC_of, if_pos, if_neg, if_true, if_false]
  | succ d ih =>
    intro N k S hk hki hN hp hc h1 hz h2 h3
    obtain ⟨N, rfl⟩ : ∃ M, N = M + 1 := ⟨N - 1, by omega⟩
    have e1 := h1 (k - 1) (by omega) (by omega)
    have ob := hw (k - 1) (by omega) (by omega)
    have l1 := lifeM_of N hp hc h0 hn hb (by omega : 0 ≤ w (k - 1)) (by omega)
    have l2 := lifeM_of N hp hc h0 hn hb (by omega : 0 ≤ i) hi
    have b1 := pkL_in h0 hn hb (by omega : 0 ≤ w (k - 1)) (by omega)
    have b2 := pkL_in h0 hn hb (by omega : 0 ≤ i) hi
    have g1 := (p2 (w (k - 1)) (by omega) (by omega)).1
    have g2 := (p2 i (by omega) hi).1
    have e13 := (hp.2 (w (k - 1)) (by omega) (by omega)).1
    have e13i := (hp.2 i (by omega) hi).1
    by_cases q : ahd (pkL n s) (pkP n s) i (w (k - 1))
    · have fr : FrM is18 noF S (pI S 18 k (w (k - 1))) := FrM.refl.wI rfl (by decide)
      obtain ⟨S', k', f1, f2, f3, f4, f5, f6, f7, f8, f9⟩ := ih N (k + (-1)) (pI S 18 k (w (k - 1))) (by omega) (by omega) (by omega) (hp.kept fr (by decide) (by decide) (by decide) (by decide) (fun h => h)) (hc.keptM fr (by decide) (by decide))
        (fun j a b => by rw [pI_idx (by omega)]; exact h1 j a (by omega)) (by rw [pI_idx (by omega)]; exact hz)
        (fun j a b => by
          by_cases e : j = k
          · rw [e, pI_eq]
          · rw [pI_idx e]; exact h2 j (by omega) b)
        (fun j a b => by
          by_cases e : j = k - 1
          · rw [e]; exact q
          · exact h3 j (by omega) b)
      refine ⟨S', k', fun K => ?_, f2, f3, f4, f5, f6, f7, f8, fr.trans f9 (fun _ h => h) (fun _ h => h) (fun _ h => h) (fun _ h => h)⟩
      unfold ahd at q
      rw [f_X11_finds_16]
      by_cases y : pkL n s (w (k - 1)) < pkL n s i
      · simp (disch := omega) only [e1, l1, l2, f_X11_finds_83, gI, uI, cI_of, aI_of, sI_of, mnI_of, mxI_of, abI_of, dvI_of, rmI_of, bI_of, bV_of, rI, rV, rL, rP, rT, rZ_of, rC_of, if_pos, if_neg, if_true, if_false]
        exact f1 K
      · simp (disch := omega) only [e1, l1, l2, e13, e13i, f_X11_finds_83, gI, uI, cI_of, aI_of, sI_of, mnI_of, mxI_of, abI_of, dvI_of, rmI_of, bI_of, bV_of, rI, rV, rL, rP, rT, rZ_of, rC_of, if_pos, if_neg, if_true, if_false]
        exact f1 K
    · have ne : pkP n s i ≠ pkP n s (w (k - 1)) := fun z => by have := p3 i (w (k - 1)) (by omega) hi (by omega) (by omega) z; omega
      refine ⟨S, k, fun K => ?_, by omega, hki, h1, hz, h2, h3, Or.inr (by unfold ahd at q ⊢; omega), FrM.refl⟩
      unfold ahd at q
      rw [f_X11_finds_16]
      by_cases y : pkL n s (w (k - 1)) = pkL n s i
      · simp (disch := omega) only [e1, l1, l2, e13, e13i, gI, uI, cI_of, aI_of, sI_of, mnI_of, mxI_of, abI_of, dvI_of, rmI_of, bI_of, bV_of, rI, rV, rL, rP, rT, rZ_of, rC_of, if_pos, if_neg, if_true, if_false]
      · simp (disch := omega) only [e1, l1, l2, gI, uI, cI_of, aI_of, sI_of, mnI_of, mxI_of, abI_of, dvI_of, rmI_of, bI_of, bV_of, rI, rV, rL, rP, rT, rZ_of, rC_of, if_pos, if_neg, if_true, if_false]
theorem whichOut (h0 : 1 ≤ n) (hn : n ≤ 48) (hb : CvB n s) : ∀ (d N : Nat) (i : Int) (S : S2) (w : Int → Int), 1 ≤ i → i + d = pkC n s → d + 60 < N → MP0 S n s → CvM S 8 n s z → Srt 1 i (ahd (pkL n s) (pkP n s)) w → (∀ j, 1 ≤ j → j < i → S.1 18 j = w j) → S.1 18 0 = 0 → ∃ S' w', (∀ K, f_X11_finds_6 K N i S = K S') ∧ Srt 1 (pkC n s) (ahd (pkL n s) (pkP n s)) w' ∧ (∀ j, 1 ≤ j → j < pkC n s → S'.1 18 j = w' j) ∧ S'.1 18 0 = 0 ∧ FrM is18 noF S S' := by
  obtain ⟨p1, -⟩ := pk_facts h0 hn hb
  intro d
  induction d with
  | zero =>
    intro N i S w hi0 hi hN hp hc hs hw hz
    obtain ⟨N, rfl⟩ : ∃ M, N = M + 1 := ⟨N - 1, by omega⟩
    have e0 := hp.1
    have hi : i = pkC n s := by omega
    subst hi
    refine ⟨S, w, fun K => ?_, hs, hw, hz, FrM.refl⟩
    rw [f_X11_finds_6]
    simp (disch := omega) only [e0, gI, uI, cI_of, aI_of, sI_of, mnI_of, mxI_of, abI_of, dvI_of, rmI_of, bI_of, bV_of, rI, rV, rL, rP, rT, rZ_of, rC_of, if_pos, if_neg, if_true, if_false]
  | succ d ih =>
    intro N i S w hi0 hi hN hp hc hs hw hz
    obtain ⟨N, rfl⟩ : ∃ M, N = M + 1 := ⟨N - 1, by omega⟩
    have e0 := hp.1
    obtain ⟨S1, k', f1, f2, f3, f4, f5, f6, f7, f8, f9⟩ := whichIn (z := z) (w := w) h0 hn hb hi0 (by omega) (fun j a b => hs.1 j a b) (i - 1).toNat N i S (by omega) (by omega) (by omega) hp hc hw hz (fun j a b => by omega) (fun j a b => by omega)
    have fr : FrM is18 noF S (pI S1 18 k' i) := f9.wI rfl (by decide)
    obtain ⟨S', w', g1, g2, g3, g4, g5⟩ := ih N (i + 1) (pI S1 18 k' i) (insO w k' i) (by omega) (by omega) (by omega) (hp.kept fr (by decide) (by decide) (by decide) (by decide) (fun h => h)) (hc.keptM fr (by decide) (by decide))
      (hs.ins f2 f3 (fun j a b => by
        rcases f8 with q | q
        · omega
        · by_cases hj : j = k' - 1
          · rw [hj]; exact q
          · have p2 := hs.2.1 j (k' - 1) a (by omega) (by omega)
            unfold ahd at p2 q ⊢; omega) (fun j a b => f7 j a b))
      (fun j a b => by
        rcases Int.lt_trichotomy j k' with q | q | q
        · rw [insO_lt q, pI_idx (by omega)]; exact f4 j a q
        · rw [q, insO_eq, pI_eq]
        · rw [insO_gt q, pI_idx (by omega)]; exact f6 j q (by omega)) (by rw [pI_idx (by omega)]; exact f5)
    refine ⟨S', w', fun K => ?_, g2, g3, g4, fr.trans g5 (fun _ h => h) (fun _ h => h) (fun _ h => h) (fun _ h => h)⟩
    rw [f_X11_finds_6]
    simp (disch := omega) only [e0, gI, uI, cI_of, aI_of, sI_of, mnI_of, mxI_of, abI_of, dvI_of, rmI_of, bI_of, bV_of, rI, rV, rL, rP, rT, rZ_of, rC_of, if_pos, if_neg, if_true, if_false]
    rw [f1]
    simp (disch := omega) only [f_X11_finds_103, gI, uI, cI_of, aI_of, sI_of, mnI_of, mxI_of, abI_of, dvI_of, rmI_of, bI_of, bV_of, rI, rV, rL, rP, rT, rZ_of, rC_of, if_pos, if_neg, if_true, if_false]
    exact g1 K
abbrev is19 : Nat → Prop := fun j => j = 19
abbrev f38 : Int → Prop := fun k => k = 38
theorem keptM_loop (h0 : 1 ≤ n) (hn : n ≤ 48) (hb : CvB n s) (hz : 0 ≤ z) (hz2 : z ≤ 999) : ∀ (d N : Nat) (i : Int) (S : S2), 0 ≤ i → i + d = pkC n s → d < N → MP0 S n s → CvM S 8 n s z → (∀ k, 0 ≤ k → k < pkC n s → S.1 18 k = pkW n s k) → (∀ k, 0 ≤ k → k < i → S.1 19 (pkW n s k) = k) → S.1 0 38 = min i (pkK n s z) → ∃ S', (∀ K, f_X11_finds_123 K N i S = K S') ∧ (∀ k, 0 ≤ k → k < pkC n s → S'.1 19 (pkW n s k) = k) ∧ S'.1 0 38 = pkK n s z ∧ FrM is19 f38 S S' := by
  obtain ⟨p1, -⟩ := pk_facts h0 hn hb
  have wr := (pkW_ok h0 hn hb).range p1.1
  have wi := (pkW_ok h0 hn hb).inj
  obtain ⟨k1, k2, k3⟩ := kpF_in (L := fun k => pkL n s (pkW n s k)) (z := z) ((pkC n s).toNat - 1) 1
  have kK : kpF (fun k => pkL n s (pkW n s k)) z ((pkC n s).toNat - 1) 1 = pkK n s z := rfl
  rw [kK] at k1 k2 k3
  intro d
  induction d with
  | zero =>
    intro N i S hi0 hi hN hp hc h18 h19 hk
    obtain ⟨N, rfl⟩ : ∃ M, N = M + 1 := ⟨N - 1, by omega⟩
    have e0 := hp.1
    refine ⟨S, fun K => ?_, fun k a b => h19 k a (by omega), by rw [hk]; omega, FrM.refl⟩
    rw [f_X11_finds_123]
    simp (disch := omega) only [e0, gI, uI, cI_of, aI_of, sI_of, mnI_of, mxI_of, abI_of, dvI_of, rmI_of, bI_of, bV_of, rI, rV, rL, rP, rT, rZ_of, rC_of, if_pos, if_neg, if_true, if_false]
  | succ d ih =>
    intro N i S hi0 hi hN hp hc h18 h19 hk
    obtain ⟨N, rfl⟩ : ∃ M, N = M + 1 := ⟨N - 1, by omega⟩
    have e0 := hp.1
    have e18 := h18 i hi0 (by omega)
    have w := wr i hi0 (by omega)
    have bL := pkL_in h0 hn hb w.1 w.2
    have fr1 : FrM is19 f38 S (pI S 19 (pkW n s i) i) := FrM.refl.wI rfl (by decide)
    have hp1 := hp.kept fr1 (by decide) (by decide) (by decide) (by decide) (by decide)
    have hc1 := hc.keptM fr1 (by decide) (by decide)
    have l1 := lifeM_of N hp1 hc1 h0 hn hb w.1 w.2
    have en := hc1.2.1
    have e18' : (pI S 19 (pkW n s i) i).1 18 i = pkW n s i := by rw [pI_cell (by decide)]; exact e18
    have e38 : (pI S 19 (pkW n s i) i).1 0 38 = min i (pkK n s z) := by rw [pI_cell (by decide)]; exact hk
    have cnt : (i = 0 ∨ z < pkL n s (pkW n s i)) ↔ i < pkK n s z := by
      constructor
      · intro h
        rcases h with h | h
        · omega
        · by_cases g : i < pkK n s z
          · exact g
          · by_cases e : i = 0
            · omega
            · have g1 := k3 (by omega)
              have g2 := pkL_falls h0 hn hb (j := pkK n s z) (k := i) (by omega) (by omega) (by omega)
              omega
      · intro h
        by_cases e : i = 0
        · exact Or.inl e
        · exact Or.inr (k2 i (by omega) h)
    have step : ∀ v, v = min (i + 1) (pkK n s z) → ∃ S', (∀ K, f_X11_finds_123 K N (i + 1) (pI (pI S 19 (pkW n s i) i) 0 38 v) = K S') ∧ (∀ k, 0 ≤ k → k < pkC n s → S'.1 19 (pkW n s k) = k) ∧ S'.1 0 38 = pkK n s z ∧ FrM is19 f38 S S' := fun v hv => by
      have fr2 : FrM is19 f38 S (pI (pI S 19 (pkW n s i) i) 0 38 v) := fr1.wF rfl
      obtain ⟨S', f1, f2, f3, f4⟩ := ih N (i + 1) (pI (pI S 19 (pkW n s i) i) 0 38 v) (by omega) (by omega) (by omega) (hp.kept fr2 (by decide) (by decide) (by decide) (by decide) (by decide)) (hc.keptM fr2 (by decide) (by decide)) (fun k a b => by rw [pI_cell (by decide), pI_cell (by decide)]; exact h18 k a b) (fun k a b => by
        rw [pI_cell (by decide)]
        by_cases q : k = i
        · rw [q, pI_eq]
        · rw [pI_idx (fun z => q (wi k i a (by omega) hi0 (by omega) z))]; exact h19 k a (by omega)) (by rw [pI_eq, hv])
      exact ⟨S', f1, f2, f3, fr2.trans f4 (fun _ h => h) (fun _ h => h) (fun _ h => h) (fun _ h => h)⟩
    by_cases g : i < pkK n s z
    · obtain ⟨S', f1, f2, f3, f4⟩ := step (min i (pkK n s z) + 1) (by omega)
      refine ⟨S', fun K => ?_, f2, f3, f4⟩
      have c := cnt.mpr g
      rw [f_X11_finds_123]
      by_cases e : i = 0
      · simp (disch := omega) only [e0, e18, e38, f_X11_finds_172, f_X11_finds_177, gI, uI, cI_of, aI_of, sI_of, mnI_of, mxI_of, abI_of, dvI_of, rmI_of, bI_of, bV_of, rI, rV, rL, rP, rT, rZ_of, rC_of, if_pos, if_neg, if_true, if_false]
        exact f1 K
      · simp (disch := omega) only [e0, e18, e18', e38, l1, en, f_X11_finds_172, f_X11_finds_177, gI, uI, cI_of, aI_of, sI_of, mnI_of, mxI_of, abI_of, dvI_of, rmI_of, bI_of, bV_of, rI, rV, rL, rP, rT, rZ_of, rC_of, if_pos, if_neg, if_true, if_false]
        exact f1 K
    · obtain ⟨S', f1, f2, f3, f4⟩ := step (min i (pkK n s z) + 0) (by omega)
      refine ⟨S', fun K => ?_, f2, f3, f4⟩
      have c := fun h => g (cnt.mp h)
      have c1 : ¬ i = 0 := fun h => c (Or.inl h)
      have c2 : ¬ z < pkL n s (pkW n s i) := fun h => c (Or.inr h)
      rw [f_X11_finds_123]
      simp (disch := omega) only [e0, e18, e18', e38, l1, en, f_X11_finds_177, gI, uI, cI_of, aI_of, sI_of, mnI_of, mxI_of, abI_of, dvI_of, rmI_of, bI_of, bV_of, rI, rV, rL, rP, rT, rZ_of, rC_of, if_pos, if_neg, if_true, if_false]
      exact f1 K
/-- the reference's cells hold the peaks of n samples s, under the noise z -/
def MPk (S : S2) (n : Int) (s : Int → Int) (z : Int) : Prop := MP0 S n s ∧ (∀ k, 0 ≤ k → k < pkC n s → S.1 18 k = pkW n s k ∧ S.1 19 (pkW n s k) = k) ∧ S.1 0 38 = pkK n s z
end FINDSM
