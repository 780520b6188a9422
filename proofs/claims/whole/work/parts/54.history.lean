/-! history and images -/
abbrev CvG (g : Int → Int) (n : Int) (s : Int → Int) (z : Int) : Prop := g 48 = n ∧ g 49 = z ∧ ∀ i, 0 ≤ i → i < n → g i = s i
theorem CvG.congr {g g' : Int → Int} {n z : Int} {s : Int → Int} (h : CvG g n s z) (hn : n ≤ 48) (hg : ∀ k, 0 ≤ k → k < 50 → g' k = g k) : CvG g' n s z := ⟨by rw [hg 48 (by omega) (by omega)]; exact h.1, by rw [hg 49 (by omega) (by omega)]; exact h.2.1, fun i a b => by rw [hg i a (by omega)]; exact h.2.2 i a b⟩
section HISTC
variable {S : S2} {n z h nx : Int} {s : Int → Int}
/-- the class's row number x of its history -/
abbrev rwC (x : Int) : Nat := 82 + 2 * x.toNat
abbrev keepA (x : Int) : Nat → Prop := fun j => j = 25 ∨ j = rwC x ∨ j = rwC x + 1
theorem keepC_of (N : Nat) (hc : CvC S 4 n s z) (hn : n ≤ 48) (e0 : S.1 25 0 = h) (e1 : S.1 25 1 = nx) (hh : 0 ≤ h ∧ h ≤ 40) (hx : 0 ≤ nx ∧ nx < 40) : ∃ S', f_X2_keep N S 25 4 = some S' ∧ CvC S' (rwC nx) n s z ∧ S'.1 25 0 = min (h + 1) 40 ∧ S'.1 25 1 = (nx + 1) % 40 ∧ Fr (keepA nx) S S' := by
  have hr : rwC nx = 82 + 2 * nx.toNat := rfl
  obtain ⟨S1, a1, a2, a3, -⟩ := copyFrom_of N (c0 := rwC nx) hc hn (by omega) (by omega) (by omega)
  have f0 : S1.1 25 0 = h := by rw [a3.at (by show ¬ (25 = rwC nx ∨ 25 = rwC nx + 1); omega)]; exact e0
  have f1 : S1.1 25 1 = nx := by rw [a3.at (by show ¬ (25 = rwC nx ∨ 25 = rwC nx + 1); omega)]; exact e1
  have fr : Fr (fun j => j = 25) S1 (pI (pI S1 25 1 ((nx + 1) % 40)) 25 0 (min (h + 1) 40)) := (Fr.refl.pI (A := fun j => j = 25) rfl).pI rfl
  have f2 : (pI S1 25 1 ((nx + 1) % 40)).1 25 0 = h := by rw [pI_idx (by omega)]; exact f0
  refine ⟨pI (pI S1 25 1 ((nx + 1) % 40)) 25 0 (min (h + 1) 40), ?_, a2.kept fr (by show ¬ (rwC nx = 25); omega) (by show ¬ (rwC nx + 1 = 25); omega), pI_eq, by rw [pI_idx (by omega), pI_eq], a3.trans fr (fun j q => Or.inr q) (fun j q => Or.inl q)⟩
  unfold f_X2_keep
  simp (disch := omega) only [gI, e1, aR_of]
  rw [a1]
  simp (disch := omega) only [f0, f1, f2, gI, uI, cI_of, aI_of, sI_of, mnI_of, mxI_of, abI_of, dvI_of, rmI_of, bI_of, bV_of, rI, rV, rL, rP, rT, rZ_of, rC_of, if_pos, if_neg, if_true, if_false]
theorem takeBackC_of (N : Nat) (e0 : S.1 25 0 = h) (e1 : S.1 25 1 = nx) (hh : 1 ≤ h ∧ h ≤ 40) (hx : 0 ≤ nx ∧ nx < 40) (hc : CvC S (rwC ((nx + 39) % 40)) n s z) (hn : n ≤ 48) : ∃ S', f_X2_takeBack N S 25 4 = some S' ∧ CvC S' 4 n s z ∧ S'.1 25 0 = h - 1 ∧ S'.1 25 1 = (nx + 39) % 40 ∧ Fr (fun j => j = 25 ∨ j = 4 ∨ j = 5) S S' := by
  have hr : rwC ((nx + 39) % 40) = 82 + 2 * ((nx + 39) % 40).toNat := rfl
  have fr : Fr (fun j => j = 25) S (pI (pI S 25 1 ((nx + 39) % 40)) 25 0 (h - 1)) := (Fr.refl.pI (A := fun j => j = 25) rfl).pI rfl
  have hc1 := hc.kept fr (by show ¬ (rwC ((nx + 39) % 40) = 25); omega) (by show ¬ (rwC ((nx + 39) % 40) + 1 = 25); omega)
  obtain ⟨S1, a1, a2, a3, -⟩ := copyFrom_of N (c0 := 4) hc1 hn (by omega) (by omega) (by omega)
  have f2 : (pI S 25 1 ((nx + 39) % 40)).1 25 0 = h := by rw [pI_idx (by omega)]; exact e0
  have f3 : (pI (pI S 25 1 ((nx + 39) % 40)) 25 0 (h - 1)).1 25 1 = (nx + 39) % 40 := by rw [pI_idx (by omega), pI_eq]
  refine ⟨S1, ?_, a2, by rw [a3.at (by decide), pI_eq], by rw [a3.at (by decide)]; exact f3, fr.trans a3 (fun j q => Or.inl q) (fun j q => Or.inr q)⟩
  unfold f_X2_takeBack
  simp (disch := omega) only [e1, gI, uI, cI_of, aI_of, sI_of, mnI_of, mxI_of, abI_of, dvI_of, rmI_of, bI_of, bV_of, rI, rV, rL, rP, rT, rZ_of, rC_of, if_pos, if_neg, if_true, if_false]
  rw [show nx + 40 - 1 = nx + 39 by omega]
  simp (disch := omega) only [gI, uI, f2, f3, aR_of]
  rw [a1]
  rfl
end HISTC
section HISTM
variable {S : S2} {h : Int}
abbrev is23M : Nat → Prop := fun j => j = 23
abbrev f44 : Int → Prop := fun k => k = 44
theorem keepShift : ∀ (d N : Nat) (x : Int) (S : S2), 231 ≤ x → x + d = 9240 → d < N → ∃ S', (∀ K, f_X11_keep_13 K N x S = K S') ∧ (∀ j, x - 231 ≤ j → j < 9009 → S'.1 23 j = S.1 23 (j + 231)) ∧ (∀ j, j < x - 231 → S'.1 23 j = S.1 23 j) ∧ FrM is23M noF S S' := by
  intro d
  induction d with
  | zero =>
    intro N x S h1 hx hN
    obtain ⟨N, rfl⟩ : ∃ M, N = M + 1 := ⟨N - 1, by omega⟩
    refine ⟨S, fun K => ?_, fun j u v => by omega, fun _ _ => rfl, FrM.refl⟩
    rw [f_X11_keep_13]
    simp (disch := omega) only [gI, uI, cI_of, aI_of, sI_of, mnI_of, mxI_of, abI_of, dvI_of, rmI_of, bI_of, bV_of, rI, rV, rL, rP, rT, rZ_of, rC_of, if_pos, if_neg, if_true, if_false]
  | succ d ih =>
    intro N x S h1 hx hN
    obtain ⟨N, rfl⟩ : ∃ M, N = M + 1 := ⟨N - 1, by omega⟩
    obtain ⟨S', f1, f2, f3, f4⟩ := ih N (x + 1) (pI S 23 (x - 231) (S.1 23 x)) (by omega) (by omega) (by omega)
    refine ⟨S', fun K => ?_, fun j u v => ?_, fun j u => ?_, (FrM.wI (i := 23) (A := is23M) FrM.refl rfl (by decide)).trans f4 (fun _ h => h) (fun _ h => h) (fun _ h => h) (fun _ h => h)⟩
    · rw [← f1 K, f_X11_keep_13]
      simp (disch := omega) only [gI, uI, cI_of, aI_of, sI_of, mnI_of, mxI_of, abI_of, dvI_of, rmI_of, bI_of, bV_of, rI, rV, rL, rP, rT, rZ_of, rC_of, if_pos, if_neg, if_true, if_false]
    · by_cases g : j = x - 231
      · rw [f3 j (by omega), g, pI_eq, show x - 231 + 231 = x by omega]
      · rw [f2 j (by omega) v, pI_idx (by omega)]
    · rw [f3 j (by omega), pI_idx (by omega)]
theorem keepLay {m : Int} (hm : 0 ≤ m ∧ m < 40) : ∀ (d N : Nat) (x : Int) (S : S2), 0 ≤ x → x + d = 231 → d < N → S.1 0 44 = m → ∃ S', (∀ K, f_X11_keep_54 K N x S = K S') ∧ (∀ j, x ≤ j → j < 231 → S'.1 23 (231 * m + j) = S.1 8 j) ∧ (∀ j, j < 231 * m + x → S'.1 23 j = S.1 23 j) ∧ FrM is23M noF S S' := by
  intro d
  induction d with
  | zero =>
    intro N x S h1 hx hN h44
    obtain ⟨N, rfl⟩ : ∃ M, N = M + 1 := ⟨N - 1, by omega⟩
    refine ⟨S, fun K => ?_, fun j u v => by omega, fun _ _ => rfl, FrM.refl⟩
    rw [f_X11_keep_54]
    simp (disch := omega) only [gI, uI, cI_of, aI_of, sI_of, mnI_of, mxI_of, abI_of, dvI_of, rmI_of, bI_of, bV_of, rI, rV, rL, rP, rT, rZ_of, rC_of, if_pos, if_neg, if_true, if_false]
  | succ d ih =>
    intro N x S h1 hx hN h44
    obtain ⟨N, rfl⟩ : ∃ M, N = M + 1 := ⟨N - 1, by omega⟩
    obtain ⟨S', f1, f2, f3, f4⟩ := ih N (x + 1) (pI S 23 (231 * m + x) (S.1 8 x)) (by omega) (by omega) (by omega) (by rw [pI_cell (by decide)]; exact h44)
    refine ⟨S', fun K => ?_, fun j u v => ?_, fun j u => ?_, (FrM.wI (i := 23) (A := is23M) FrM.refl rfl (by decide)).trans f4 (fun _ h => h) (fun _ h => h) (fun _ h => h) (fun _ h => h)⟩
    · rw [← f1 K, f_X11_keep_54]
      simp (disch := omega) only [h44, gI, uI, cI_of, aI_of, sI_of, mnI_of, mxI_of, abI_of, dvI_of, rmI_of, bI_of, bV_of, rI, rV, rL, rP, rT, rZ_of, rC_of, if_pos, if_neg, if_true, if_false]
    · by_cases g : j = x
      · rw [f3 _ (by omega), g, pI_eq]
      · rw [f2 j (by omega) v, pI_cell (by decide)]
    · rw [f3 j (by omega), pI_idx (by omega)]
theorem keepM_of (N : Nat) (e0 : S.1 0 44 = h) (hh : 0 ≤ h ∧ h ≤ 40) (hN : 10000 ≤ N) : ∃ S', f_X11_keep N S = some S' ∧ S'.1 0 44 = min (h + 1) 40 ∧ (∀ j k, 0 ≤ j → j < min (h + 1) 40 - 1 → 0 ≤ k → k < 231 → S'.1 23 (231 * j + k) = S.1 23 (231 * (j + (h + 1 - min (h + 1) 40)) + k)) ∧ (∀ k, 0 ≤ k → k < 231 → S'.1 23 (231 * (min (h + 1) 40 - 1) + k) = S.1 8 k) ∧ FrM is23M f44 S S' := by
  by_cases g : h = 40
  · obtain ⟨S1, a1, a2, a3, a4⟩ := keepShift 9009 N 231 S (by omega) (by omega) (by omega)
    have b44 : S1.1 0 44 = 40 := by rw [a4.2.2 44 (fun q => q)]; omega
    obtain ⟨S2, b1, b2, b3, b4⟩ := keepLay (m := 39) (by omega) 231 N 0 (pI S1 0 44 39) (by omega) (by omega) (by omega) pI_eq
    have c44 : S2.1 0 44 = 39 := by rw [b4.2.2 44 (fun q => q), pI_eq]
    refine ⟨pI S2 0 44 40, ?_, by rw [pI_eq]; omega, fun j k p q u v => ?_, fun k u v => ?_, ?_⟩
    · unfold f_X11_keep
      simp (disch := omega) only [e0, gI, uI, cI_of, aI_of, sI_of, mnI_of, mxI_of, abI_of, dvI_of, rmI_of, bI_of, bV_of, rI, rV, rL, rP, rT, rZ_of, rC_of, if_pos, if_neg, if_true, if_false]
      rw [a1, f_X11_keep_42]
      simp (disch := omega) only [b44, f_X11_keep_52, gI, uI, cI_of, aI_of, sI_of, mnI_of, mxI_of, abI_of, dvI_of, rmI_of, bI_of, bV_of, rI, rV, rL, rP, rT, rZ_of, rC_of, if_pos, if_neg, if_true, if_false]
      rw [show (40 : Int) - 1 = 39 by omega, b1, f_X11_keep_88]
      simp (disch := omega) only [c44, gI, uI, cI_of, aI_of, sI_of, mnI_of, mxI_of, abI_of, dvI_of, rmI_of, bI_of, bV_of, rI, rV, rL, rP, rT, rZ_of, rC_of, if_pos, if_neg, if_true, if_false]
      rfl
    · rw [pI_cell (by decide), b3 _ (by omega), pI_cell (by decide), a2 _ (by omega) (by omega)]
      rw [show 231 * j + k + 231 = 231 * (j + (h + 1 - min (h + 1) 40)) + k by omega]
    · rw [pI_cell (by decide), show 231 * (min (h + 1) 40 - 1) + k = 231 * 39 + k by omega, b2 k (by omega) v, pI_cell (by decide), a4.2.1 8 (by decide) (by decide)]
    · exact (((a4.mono (fun _ h => h) (fun _ h => h.elim) (C := is23M) (K := f44)).wF rfl).trans b4 (fun _ h => h) (fun _ h => h) (fun _ h => h) (fun _ h => h.elim)).wF rfl
  · obtain ⟨S2, b1, b2, b3, b4⟩ := keepLay (m := h) (by omega) 231 N 0 S (by omega) (by omega) (by omega) e0
    have c44 : S2.1 0 44 = h := by rw [b4.2.2 44 (fun q => q)]; exact e0
    refine ⟨pI S2 0 44 (h + 1), ?_, by rw [pI_eq]; omega, fun j k p q u v => ?_, fun k u v => ?_, ?_⟩
    · unfold f_X11_keep
      simp (disch := omega) only [e0, f_X11_keep_52, gI, uI, cI_of, aI_of, sI_of, mnI_of, mxI_of, abI_of, dvI_of, rmI_of, bI_of, bV_of, rI, rV, rL, rP, rT, rZ_of, rC_of, if_pos, if_neg, if_true, if_false]
      rw [b1, f_X11_keep_88]
      simp (disch := omega) only [c44, gI, uI, cI_of, aI_of, sI_of, mnI_of, mxI_of, abI_of, dvI_of, rmI_of, bI_of, bV_of, rI, rV, rL, rP, rT, rZ_of, rC_of, if_pos, if_neg, if_true, if_false]
    · rw [pI_cell (by decide), b3 _ (by omega)]
      rw [show 231 * j + k = 231 * (j + (h + 1 - min (h + 1) 40)) + k by omega]
    · rw [pI_cell (by decide), show 231 * (min (h + 1) 40 - 1) + k = 231 * h + k by omega, b2 k (by omega) v]
    · exact (b4.mono (fun _ h => h) (fun _ h => h.elim) (C := is23M) (K := f44)).wF rfl
theorem undoLay {m : Int} (hm : 0 ≤ m ∧ m < 40) : ∀ (d N : Nat) (x : Int) (S : S2), 0 ≤ x → x + d = 231 → d < N → S.1 0 44 = m → ∃ S', (∀ K, f_X11_undo_21 K N x S = K S') ∧ (∀ j, x ≤ j → j < 231 → S'.1 8 j = S.1 23 (231 * m + j)) ∧ (∀ j, j < x → S'.1 8 j = S.1 8 j) ∧ FrM is8 noF S S' := by
  intro d
  induction d with
  | zero =>
    intro N x S h1 hx hN h44
    obtain ⟨N, rfl⟩ : ∃ M, N = M + 1 := ⟨N - 1, by omega⟩
    refine ⟨S, fun K => ?_, fun j u v => by omega, fun _ _ => rfl, FrM.refl⟩
    rw [f_X11_undo_21]
    simp (disch := omega) only [gI, uI, cI_of, aI_of, sI_of, mnI_of, mxI_of, abI_of, dvI_of, rmI_of, bI_of, bV_of, rI, rV, rL, rP, rT, rZ_of, rC_of, if_pos, if_neg, if_true, if_false]
  | succ d ih =>
    intro N x S h1 hx hN h44
    obtain ⟨N, rfl⟩ : ∃ M, N = M + 1 := ⟨N - 1, by omega⟩
    obtain ⟨S', f1, f2, f3, f4⟩ := ih N (x + 1) (pI S 8 x (S.1 23 (231 * m + x))) (by omega) (by omega) (by omega) (by rw [pI_cell (by decide)]; exact h44)
    refine ⟨S', fun K => ?_, fun j u v => ?_, fun j u => ?_, (FrM.wI (i := 8) (A := is8) FrM.refl rfl (by decide)).trans f4 (fun _ h => h) (fun _ h => h) (fun _ h => h) (fun _ h => h)⟩
    · rw [← f1 K, f_X11_undo_21]
      simp (disch := omega) only [h44, gI, uI, cI_of, aI_of, sI_of, mnI_of, mxI_of, abI_of, dvI_of, rmI_of, bI_of, bV_of, rI, rV, rL, rP, rT, rZ_of, rC_of, if_pos, if_neg, if_true, if_false]
    · by_cases g : j = x
      · rw [f3 _ (by omega), g, pI_eq]
      · rw [f2 j (by omega) v, pI_cell (by decide)]
    · rw [f3 j (by omega), pI_idx (by omega)]
theorem undoM_of (N : Nat) (e0 : S.1 0 44 = h) (hh : 1 ≤ h ∧ h ≤ 40) (hN : 300 ≤ N) : ∃ S', f_X11_undo N S = some (h - 1, S') ∧ S'.1 0 44 = h - 1 ∧ (∀ k, 0 ≤ k → k < 231 → S'.1 8 k = S.1 23 (231 * (h - 1) + k)) ∧ FrM is8 f44 S S' := by
  obtain ⟨S1, a1, a2, a3, a4⟩ := undoLay (m := h - 1) (by omega) 231 N 0 (pI S 0 44 (h - 1)) (by omega) (by omega) (by omega) pI_eq
  have e44 : S1.1 0 44 = h - 1 := by rw [a4.2.2 44 (fun q => q), pI_eq]
  refine ⟨S1, ?_, e44, fun k x y => by rw [a2 k x y, pI_cell (by decide)], (FrM.wF (A := is8) (F := f44) FrM.refl rfl).trans a4 (fun _ h => h) (fun _ h => h) (fun _ h => h) (fun _ h => h.elim)⟩
  unfold f_X11_undo
  simp (disch := omega) only [e0, gI, uI, cI_of, aI_of, sI_of, mnI_of, mxI_of, abI_of, dvI_of, rmI_of, bI_of, bV_of, rI, rV, rL, rP, rT, rZ_of, rC_of, if_pos, if_neg, if_true, if_false]
  rw [a1, f_X11_undo_55]
  simp (disch := omega) only [e44, gI, uI, cI_of, aI_of, sI_of, mnI_of, mxI_of, abI_of, dvI_of, rmI_of, bI_of, bV_of, rI, rV, rL, rP, rT, rZ_of, rC_of, if_pos, if_neg, if_true, if_false]
abbrev is24 : Nat → Prop := fun j => j = 24
theorem imageLay : ∀ (d N : Nat) (x : Int) (S : S2), 0 ≤ x → x + d = 231 → d < N → ∃ S', (∀ K, f_X11_image_11 K N x S = K S') ∧ (∀ j, x ≤ j → j < 231 → S'.1 24 j = S.1 8 j) ∧ (∀ j, j < x → S'.1 24 j = S.1 24 j) ∧ FrM is24 noF S S' := by
  intro d
  induction d with
  | zero =>
    intro N x S h1 hx hN
    obtain ⟨N, rfl⟩ : ∃ M, N = M + 1 := ⟨N - 1, by omega⟩
    refine ⟨S, fun K => ?_, fun j u v => by omega, fun _ _ => rfl, FrM.refl⟩
    rw [f_X11_image_11]
    simp (disch := omega) only [gI, uI, cI_of, aI_of, sI_of, mnI_of, mxI_of, abI_of, dvI_of, rmI_of, bI_of, bV_of, rI, rV, rL, rP, rT, rZ_of, rC_of, if_pos, if_neg, if_true, if_false]
  | succ d ih =>
    intro N x S h1 hx hN
    obtain ⟨N, rfl⟩ : ∃ M, N = M + 1 := ⟨N - 1, by omega⟩
    obtain ⟨S', f1, f2, f3, f4⟩ := ih N (x + 1) (pI S 24 x (S.1 8 x)) (by omega) (by omega) (by omega)
    refine ⟨S', fun K => ?_, fun j u v => ?_, fun j u => ?_, (FrM.wI (i := 24) (A := is24) FrM.refl rfl (by decide)).trans f4 (fun _ h => h) (fun _ h => h) (fun _ h => h) (fun _ h => h)⟩
    · rw [← f1 K, f_X11_image_11]
      simp (disch := omega) only [gI, uI, cI_of, aI_of, sI_of, mnI_of, mxI_of, abI_of, dvI_of, rmI_of, bI_of, bV_of, rI, rV, rL, rP, rT, rZ_of, rC_of, if_pos, if_neg, if_true, if_false]
    · by_cases g : j = x
      · rw [f3 _ (by omega), g, pI_eq]
      · rw [f2 j (by omega) v, pI_cell (by decide)]
    · rw [f3 j (by omega), pI_idx (by omega)]
theorem backLay : ∀ (d N : Nat) (x : Int) (S : S2), 0 ≤ x → x + d = 231 → d < N → ∃ S', (∀ K, f_X11_back_11 K N x S = K S') ∧ (∀ j, x ≤ j → j < 231 → S'.1 8 j = S.1 24 j) ∧ (∀ j, j < x → S'.1 8 j = S.1 8 j) ∧ FrM is8 noF S S' := by
  intro d
  induction d with
  | zero =>
    intro N x S h1 hx hN
    obtain ⟨N, rfl⟩ : ∃ M, N = M + 1 := ⟨N - 1, by omega⟩
    refine ⟨S, fun K => ?_, fun j u v => by omega, fun _ _ => rfl, FrM.refl⟩
    rw [f_X11_back_11]
    simp (disch := omega) only [gI, uI, cI_of, aI_of, sI_of, mnI_of, mxI_of, abI_of, dvI_of, rmI_of, bI_of, bV_of, rI, rV, rL, rP, rT, rZ_of, rC_of, if_pos, if_neg, if_true, if_false]
  | succ d ih =>
    intro N x S h1 hx hN
    obtain ⟨N, rfl⟩ : ∃ M, N = M + 1 := ⟨N - 1, by omega⟩
    obtain ⟨S', f1, f2, f3, f4⟩ := ih N (x + 1) (pI S 8 x (S.1 24 x)) (by omega) (by omega) (by omega)
    refine ⟨S', fun K => ?_, fun j u v => ?_, fun j u => ?_, (FrM.wI (i := 8) (A := is8) FrM.refl rfl (by decide)).trans f4 (fun _ h => h) (fun _ h => h) (fun _ h => h) (fun _ h => h)⟩
    · rw [← f1 K, f_X11_back_11]
      simp (disch := omega) only [gI, uI, cI_of, aI_of, sI_of, mnI_of, mxI_of, abI_of, dvI_of, rmI_of, bI_of, bV_of, rI, rV, rL, rP, rT, rZ_of, rC_of, if_pos, if_neg, if_true, if_false]
    · by_cases g : j = x
      · rw [f3 _ (by omega), g, pI_eq]
      · rw [f2 j (by omega) v, pI_cell (by decide)]
    · rw [f3 j (by omega), pI_idx (by omega)]
theorem putAside_lay : ∀ (d N : Nat) (x : Int) (S : S2), 0 ≤ x → x + d = 50 → d < N → ∃ S', f_X11_putAside_2 N x S = some S' ∧ (∀ j, x ≤ j → j < 50 → S'.1 25 j = S.1 8 j) ∧ (∀ j, j < x → S'.1 25 j = S.1 25 j) ∧ FrM (fun j => j = 25) noF S S' := by
  intro d
  induction d with
  | zero =>
    intro N x S h1 hx hN
    obtain ⟨N, rfl⟩ : ∃ M, N = M + 1 := ⟨N - 1, by omega⟩
    refine ⟨S, ?_, fun j u v => by omega, fun _ _ => rfl, FrM.refl⟩
    rw [f_X11_putAside_2]
    simp (disch := omega) only [gI, uI, cI_of, aI_of, sI_of, mnI_of, mxI_of, abI_of, dvI_of, rmI_of, bI_of, bV_of, rI, rV, rL, rP, rT, rZ_of, rC_of, if_pos, if_neg, if_true, if_false]
  | succ d ih =>
    intro N x S h1 hx hN
    obtain ⟨N, rfl⟩ : ∃ M, N = M + 1 := ⟨N - 1, by omega⟩
    obtain ⟨S', f1, f2, f3, f4⟩ := ih N (x + 1) (pI S 25 x (S.1 8 x)) (by omega) (by omega) (by omega)
    refine ⟨S', ?_, fun j u v => ?_, fun j u => ?_, (FrM.wI (i := 25) (A := fun j => j = 25) FrM.refl rfl (by decide)).trans f4 (fun _ h => h) (fun _ h => h) (fun _ h => h) (fun _ h => h)⟩
    · rw [← f1, f_X11_putAside_2]
      simp (disch := omega) only [gI, uI, cI_of, aI_of, sI_of, mnI_of, mxI_of, abI_of, dvI_of, rmI_of, bI_of, bV_of, rI, rV, rL, rP, rT, rZ_of, rC_of, if_pos, if_neg, if_true, if_false]
    · by_cases g : j = x
      · rw [f3 _ (by omega), g, pI_eq]
      · rw [f2 j (by omega) v, pI_cell (by decide)]
    · rw [f3 j (by omega), pI_idx (by omega)]
theorem bringBack_lay : ∀ (d N : Nat) (x : Int) (S : S2), 0 ≤ x → x + d = 50 → d < N → ∃ S', f_X11_bringBack_2 N x S = some S' ∧ (∀ j, x ≤ j → j < 50 → S'.1 8 j = S.1 25 j) ∧ (∀ j, j < x ∨ 50 ≤ j → S'.1 8 j = S.1 8 j) ∧ FrM is8 noF S S' := by
  intro d
  induction d with
  | zero =>
    intro N x S h1 hx hN
    obtain ⟨N, rfl⟩ : ∃ M, N = M + 1 := ⟨N - 1, by omega⟩
    refine ⟨S, ?_, fun j u v => by omega, fun _ _ => rfl, FrM.refl⟩
    rw [f_X11_bringBack_2]
    simp (disch := omega) only [gI, uI, cI_of, aI_of, sI_of, mnI_of, mxI_of, abI_of, dvI_of, rmI_of, bI_of, bV_of, rI, rV, rL, rP, rT, rZ_of, rC_of, if_pos, if_neg, if_true, if_false]
  | succ d ih =>
    intro N x S h1 hx hN
    obtain ⟨N, rfl⟩ : ∃ M, N = M + 1 := ⟨N - 1, by omega⟩
    obtain ⟨S', f1, f2, f3, f4⟩ := ih N (x + 1) (pI S 8 x (S.1 25 x)) (by omega) (by omega) (by omega)
    refine ⟨S', ?_, fun j u v => ?_, fun j u => ?_, (FrM.wI (i := 8) (A := is8) FrM.refl rfl (by decide)).trans f4 (fun _ h => h) (fun _ h => h) (fun _ h => h) (fun _ h => h)⟩
    · rw [← f1, f_X11_bringBack_2]
      simp (disch := omega) only [gI, uI, cI_of, aI_of, sI_of, mnI_of, mxI_of, abI_of, dvI_of, rmI_of, bI_of, bV_of, rI, rV, rL, rP, rT, rZ_of, rC_of, if_pos, if_neg, if_true, if_false]
    · by_cases g : j = x
      · rw [f3 _ (by omega), g, pI_eq]
      · rw [f2 j (by omega) v, pI_cell (by decide)]
    · rw [f3 j (by omega), pI_idx (by omega)]
theorem unlikeLay : ∀ (d N : Nat) (x : Int) (S : S2), 0 ≤ x → x + d = 50 → d < N → ∃ S', (∀ K, f_X11_unlike_15 K N x S = K S') ∧ (∀ j, x ≤ j → j < 50 → S'.1 8 j = S.1 24 j) ∧ (∀ j, j < x ∨ 50 ≤ j → S'.1 8 j = S.1 8 j) ∧ FrM is8 noF S S' := by
  intro d
  induction d with
  | zero =>
    intro N x S h1 hx hN
    obtain ⟨N, rfl⟩ : ∃ M, N = M + 1 := ⟨N - 1, by omega⟩
    refine ⟨S, fun K => ?_, fun j u v => by omega, fun _ _ => rfl, FrM.refl⟩
    rw [f_X11_unlike_15]
    simp (disch := omega) only [gI, uI, cI_of, aI_of, sI_of, mnI_of, mxI_of, abI_of, dvI_of, rmI_of, bI_of, bV_of, rI, rV, rL, rP, rT, rZ_of, rC_of, if_pos, if_neg, if_true, if_false]
  | succ d ih =>
    intro N x S h1 hx hN
    obtain ⟨N, rfl⟩ : ∃ M, N = M + 1 := ⟨N - 1, by omega⟩
    obtain ⟨S', f1, f2, f3, f4⟩ := ih N (x + 1) (pI S 8 x (S.1 24 x)) (by omega) (by omega) (by omega)
    refine ⟨S', fun K => ?_, fun j u v => ?_, fun j u => ?_, (FrM.wI (i := 8) (A := is8) FrM.refl rfl (by decide)).trans f4 (fun _ h => h) (fun _ h => h) (fun _ h => h) (fun _ h => h)⟩
    · rw [← f1 K, f_X11_unlike_15]
      simp (disch := omega) only [gI, uI, cI_of, aI_of, sI_of, mnI_of, mxI_of, abI_of, dvI_of, rmI_of, bI_of, bV_of, rI, rV, rL, rP, rT, rZ_of, rC_of, if_pos, if_neg, if_true, if_false]
    · by_cases g : j = x
      · rw [f3 _ (by omega), g, pI_eq]
      · rw [f2 j (by omega) v, pI_cell (by decide)]
    · rw [f3 j (by omega), pI_idx (by omega)]
end HISTM
