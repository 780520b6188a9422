/-! peaks by falling persistence: the class's numbers -/
/-- c stands ahead of d -/
def ahd (L P : Int → Int) (c d : Int) : Prop := L d < L c ∨ (L c = L d ∧ P c < P d)
theorem ahd_asym {L P : Int → Int} : ∀ a b, ahd L P a b → ¬ ahd L P b a := fun a b h g => by unfold ahd at h g; omega
def lifeF (H D : Int → Int) : Int → Int := fun c => H c - D c
section NUMC
variable {S : S2} {c0 : Nat} {m : Int} {P H D w : Int → Int}
/-- what giving numbers reads -/
def GN (S : S2) (c0 : Nat) (m : Int) (P H D : Int → Int) : Prop := S.1 c0 0 = m ∧ ∀ c, 0 ≤ c → c < m → S.1 (c0 + 5) c = P c ∧ S.1 (c0 + 6) c = H c ∧ S.1 (c0 + 8) c = D c
def GB (m : Int) (P H D : Int → Int) : Prop := ∀ c, 0 ≤ c → c < m → (0 ≤ P c ∧ P c ≤ 48) ∧ (0 ≤ H c ∧ H c ≤ 999) ∧ (0 ≤ D c ∧ D c ≤ 999)
theorem GN.kept {A : Nat → Prop} {S' : S2} (h : GN S c0 m P H D) (f : Fr A S S') (h0 : ¬ A c0) (h5 : ¬ A (c0 + 5)) (h6 : ¬ A (c0 + 6)) (h8 : ¬ A (c0 + 8)) : GN S' c0 m P H D := ⟨by rw [f.at h0]; exact h.1, fun c a b => by rw [f.at h5, f.at h6, f.at h8]; exact h.2 c a b⟩
theorem isAheadC_y (N : Nat) (h : GN S c0 m P H D) (g : GB m P H D) (hm : m ≤ 48) {a b : Int} (h1 : 0 ≤ a) (h2 : a < m) (h3 : 0 ≤ b) (h4 : b < m) (k : ahd (lifeF H D) P a b) : f_X5_isAhead N S c0 a b = some (1, S) := by
  obtain ⟨a5, a6, a8⟩ := h.2 a h1 h2
  obtain ⟨b5, b6, b8⟩ := h.2 b h3 h4
  have ga := g a h1 h2
  have gb := g b h3 h4
  unfold ahd lifeF at k
  unfold f_X5_isAhead f_X5_isAhead_51
  by_cases q : H b - D b < H a - D a
  · simp (disch := omega) only [a5, a6, a8, b5, b6, b8, gI, uI, cI_of, aI_of, sI_of, mnI_of, mxI_of, abI_of, dvI_of, rmI_of, bI_of, bV_of, rI, rV, rL, rP, rT, rZ_of, rC_of, if_pos, if_neg, if_true, if_false]
  · simp (disch := omega) only [a5, a6, a8, b5, b6, b8, gI, uI, cI_of, aI_of, sI_of, mnI_of, mxI_of, abI_of, dvI_of, rmI_of, bI_of, bV_of, rI, rV, rL, rP, rT, rZ_of, rC_of, if_pos, if_neg, if_true, if_false]
theorem isAheadC_n (N : Nat) (h : GN S c0 m P H D) (g : GB m P H D) (hm : m ≤ 48) {a b : Int} (h1 : 0 ≤ a) (h2 : a < m) (h3 : 0 ≤ b) (h4 : b < m) (k : ¬ ahd (lifeF H D) P a b) : f_X5_isAhead N S c0 a b = some (0, S) := by
  obtain ⟨a5, a6, a8⟩ := h.2 a h1 h2
  obtain ⟨b5, b6, b8⟩ := h.2 b h3 h4
  have ga := g a h1 h2
  have gb := g b h3 h4
  unfold ahd lifeF at k
  unfold f_X5_isAhead f_X5_isAhead_51
  by_cases q : H a - D a = H b - D b
  · simp (disch := omega) only [a5, a6, a8, b5, b6, b8, gI, uI, cI_of, aI_of, sI_of, mnI_of, mxI_of, abI_of, dvI_of, rmI_of, bI_of, bV_of, rI, rV, rL, rP, rT, rZ_of, rC_of, if_pos, if_neg, if_true, if_false]
  · simp (disch := omega) only [a5, a6, a8, b5, b6, b8, gI, uI, cI_of, aI_of, sI_of, mnI_of, mxI_of, abI_of, dvI_of, rmI_of, bI_of, bV_of, rI, rV, rL, rP, rT, rZ_of, rC_of, if_pos, if_neg, if_true, if_false]
abbrev row11 (c0 : Nat) : Nat → Prop := fun j => j = c0 + 11
theorem numIn {i : Int} (g : GB m P H D) (hm : m ≤ 48) (hinj : ∀ c d, 0 ≤ c → c < m → 0 ≤ d → d < m → P c = P d → c = d) (hi0 : 1 ≤ i) (hi : i < m) (hw : ∀ j, 1 ≤ j → j < i → 1 ≤ w j ∧ w j < i) : ∀ (d N : Nat) (k : Int) (S : S2), k = d + 1 → k ≤ i → d < N → GN S c0 m P H D → (∀ j, 1 ≤ j → j < k → S.1 (c0 + 11) j = w j) → S.1 (c0 + 11) 0 = 0 → (∀ j, k < j → j ≤ i → S.1 (c0 + 11) j = w (j - 1)) → (∀ j, k ≤ j → j < i → ahd (lifeF H D) P i (w j)) → ∃ S' k', (∀ K, f_X5_giveNumbers_19 c0 K N i k S = K i k' S') ∧ 1 ≤ k' ∧ k' ≤ i ∧ (∀ j, 1 ≤ j → j < k' → S'.1 (c0 + 11) j = w j) ∧ S'.1 (c0 + 11) 0 = 0 ∧ (∀ j, k' < j → j ≤ i → S'.1 (c0 + 11) j = w (j - 1)) ∧ (∀ j, k' ≤ j → j < i → ahd (lifeF H D) P i (w j)) ∧ (k' = 1 ∨ ahd (lifeF H D) P (w (k' - 1)) i) ∧ Fr (row11 c0) S S' := by
  intro d
  induction d with
  | zero =>
    intro N k S hk hki hN hG h1 hz h2 h3
    obtain ⟨N, rfl⟩ : ∃ M, N = M + 1 := ⟨N - 1, by omega⟩
    have hk : k = 1 := hk
    refine ⟨S, k, fun K => ?_, by omega, hki, h1, hz, h2, h3, Or.inl hk, Fr.refl⟩
    rw [f_X5_giveNumbers_19]
    simp (disch := omega) only [gI, uI, cI_of, aI_of, sI_of, mnI_of, mxI_of, abI_of, dvI_of, rmI_of, bI_of, bV_of, rI, rV, rL, rP, rT, rZ_of, rC_of, if_pos, if_neg, if_true, if_false]
  | succ d ih =>
    intro N k S hk hki hN hG h1 hz h2 h3
    obtain ⟨N, rfl⟩ : ∃ M, N = M + 1 := ⟨N - 1, by omega⟩
    have e1 := h1 (k - 1) (by omega) (by omega)
    have ob := hw (k - 1) (by omega) (by omega)
    by_cases q : ahd (lifeF H D) P i (w (k - 1))
    · have a1 := isAheadC_y N hG g hm (by omega : 0 ≤ i) hi (by omega : 0 ≤ w (k - 1)) (by omega) q
      have fr : Fr (row11 c0) S (pI S (c0 + 11) k (w (k - 1))) := Fr.refl.pI rfl
      obtain ⟨S', k', f1, f2, f3, f4, f5, f6, f7, f8, f9⟩ := ih N (k + (-1)) (pI S (c0 + 11) k (w (k - 1))) (by omega) (by omega) (by omega) (hG.kept fr (by show ¬ c0 = c0 + 11; omega) (by show ¬ c0 + 5 = c0 + 11; omega) (by show ¬ c0 + 6 = c0 + 11; omega) (by show ¬ c0 + 8 = c0 + 11; omega))
        (fun j a b => by rw [pI_idx (by omega)]; exact h1 j a (by omega)) (by rw [pI_idx (by omega)]; exact hz)
        (fun j a b => by
          by_cases e : j = k
          · rw [e, pI_eq]
          · rw [pI_idx e]; exact h2 j (by omega) b)
        (fun j a b => by
          by_cases e : j = k - 1
          · rw [e]; exact q
          · exact h3 j (by omega) b)
      refine ⟨S', k', fun K => ?_, f2, f3, f4, f5, f6, f7, f8, fr.trans f9 (fun _ h => h) (fun _ h => h)⟩
      rw [f_X5_giveNumbers_19]
      simp (disch := omega) only [e1, a1, gI, uI, cI_of, aI_of, sI_of, mnI_of, mxI_of, abI_of, dvI_of, rmI_of, bI_of, bV_of, rI, rV, rL, rP, rT, rZ_of, rC_of, if_pos, if_neg, if_true, if_false]
      exact f1 K
    · have a1 := isAheadC_n N hG g hm (by omega : 0 ≤ i) hi (by omega : 0 ≤ w (k - 1)) (by omega) q
      refine ⟨S, k, fun K => ?_, by omega, hki, h1, hz, h2, h3, Or.inr ?_, Fr.refl⟩
      · rw [f_X5_giveNumbers_19]
        simp (disch := omega) only [e1, a1, gI, uI, cI_of, aI_of, sI_of, mnI_of, mxI_of, abI_of, dvI_of, rmI_of, bI_of, bV_of, rI, rV, rL, rP, rT, rZ_of, rC_of, if_pos, if_neg, if_true, if_false]
      · have ne : P i ≠ P (w (k - 1)) := fun z => by have := hinj i (w (k - 1)) (by omega) hi (by omega) (by omega) z; omega
        unfold ahd at q ⊢; omega
theorem numOut (g : GB m P H D) (hm : m ≤ 48) (hinj : ∀ c d, 0 ≤ c → c < m → 0 ≤ d → d < m → P c = P d → c = d) : ∀ (d N : Nat) (i : Int) (S : S2) (w : Int → Int), 1 ≤ i → i + d = m → d + 60 < N → GN S c0 m P H D → Srt 1 i (ahd (lifeF H D) P) w → (∀ j, 1 ≤ j → j < i → S.1 (c0 + 11) j = w j) → S.1 (c0 + 11) 0 = 0 → ∃ S' w', (∀ K, f_X5_giveNumbers_9 c0 K N i S = K S') ∧ Srt 1 m (ahd (lifeF H D) P) w' ∧ (∀ j, 1 ≤ j → j < m → S'.1 (c0 + 11) j = w' j) ∧ S'.1 (c0 + 11) 0 = 0 ∧ Fr (row11 c0) S S' := by
  intro d
  induction d with
  | zero =>
    intro N i S w h0 hi hN hG hs hw hz
    obtain ⟨N, rfl⟩ : ∃ M, N = M + 1 := ⟨N - 1, by omega⟩
    have e0 := hG.1
    have hi : i = m := by omega
    subst hi
    refine ⟨S, w, fun K => ?_, hs, hw, hz, Fr.refl⟩
    rw [f_X5_giveNumbers_9]
    simp (disch := omega) only [e0, gI, uI, cI_of, aI_of, sI_of, mnI_of, mxI_of, abI_of, dvI_of, rmI_of, bI_of, bV_of, rI, rV, rL, rP, rT, rZ_of, rC_of, if_pos, if_neg, if_true, if_false]
  | succ d ih =>
    intro N i S w h0 hi hN hG hs hw hz
    obtain ⟨N, rfl⟩ : ∃ M, N = M + 1 := ⟨N - 1, by omega⟩
    have e0 := hG.1
    obtain ⟨S1, k', f1, f2, f3, f4, f5, f6, f7, f8, f9⟩ := numIn (c0 := c0) g hm hinj h0 (by omega) (fun j a b => hs.1 j a b) (i - 1).toNat N i S (by omega) (by omega) (by omega) hG hw hz (fun j a b => by omega) (fun j a b => by omega)
    have fr : Fr (row11 c0) S (pI S1 (c0 + 11) k' i) := f9.pI rfl
    obtain ⟨S', w', g1, g2, g3, g4, g5⟩ := ih N (i + 1) (pI S1 (c0 + 11) k' i) (insO w k' i) (by omega) (by omega) (by omega) (hG.kept fr (by show ¬ c0 = c0 + 11; omega) (by show ¬ c0 + 5 = c0 + 11; omega) (by show ¬ c0 + 6 = c0 + 11; omega) (by show ¬ c0 + 8 = c0 + 11; omega))
      (hs.ins f2 f3 (fun j a b => by
        rcases f8 with q | q
        · omega
        · by_cases hj : j = k' - 1
          · rw [hj]; exact q
          · have p2 := hs.2.1 j (k' - 1) a (by omega) (by omega)
            unfold ahd at p2 q ⊢; omega) (fun j a b => f7 j a b))
      (fun j a b => by
        rcases Int.lt_trichotomy j k' with q | q | q
        · rw [insO_lt q, pI_idx (by omega)]; exact f4 j a q
        · rw [q, insO_eq, pI_eq]
        · rw [insO_gt q, pI_idx (by omega)]; exact f6 j q (by omega)) (by rw [pI_idx (by omega)]; exact f5)
    refine ⟨S', w', fun K => ?_, g2, g3, g4, fr.trans g5 (fun _ h => h) (fun _ h => h)⟩
    rw [f_X5_giveNumbers_9]
    simp (disch := omega) only [e0, gI, uI, cI_of, aI_of, sI_of, mnI_of, mxI_of, abI_of, dvI_of, rmI_of, bI_of, bV_of, rI, rV, rL, rP, rT, rZ_of, rC_of, if_pos, if_neg, if_true, if_false]
    rw [f1]
    simp (disch := omega) only [f_X5_giveNumbers_60, gI, uI, cI_of, aI_of, sI_of, mnI_of, mxI_of, abI_of, dvI_of, rmI_of, bI_of, bV_of, rI, rV, rL, rP, rT, rZ_of, rC_of, if_pos, if_neg, if_true, if_false]
    exact g1 K
/-- which peak bears number k: w 0 = 0, then by falling persistence -/
theorem numTell {w : Int → Int} (hm : m ≤ 48) (hw : ∀ k, 0 ≤ k → k < m → 0 ≤ w k ∧ w k < m) (hinj : ∀ j k, 0 ≤ j → j < m → 0 ≤ k → k < m → w j = w k → j = k) : ∀ (d N : Nat) (i : Int) (S : S2), 0 ≤ i → i + d = m → d < N → S.1 c0 0 = m → (∀ j, 0 ≤ j → j < m → S.1 (c0 + 11) j = w j) → (∀ j, 0 ≤ j → j < i → S.1 (c0 + 12) (w j) = j) → ∃ S', f_X5_giveNumbers_75 c0 N i S = some S' ∧ (∀ j, 0 ≤ j → j < m → S'.1 (c0 + 12) (w j) = j) ∧ Fr (fun j => j = c0 + 12) S S' := by
  intro d
  induction d with
  | zero =>
    intro N i S h0 hi hN e0 h11 h12
    obtain ⟨N, rfl⟩ : ∃ M, N = M + 1 := ⟨N - 1, by omega⟩
    refine ⟨S, ?_, fun j a b => h12 j a (by omega), Fr.refl⟩
    rw [f_X5_giveNumbers_75]
    simp (disch := omega) only [gI, uI, cI_of, aI_of, sI_of, mnI_of, mxI_of, abI_of, dvI_of, rmI_of, bI_of, bV_of, rI, rV, rL, rP, rT, rZ_of, rC_of, if_pos, if_neg, if_true, if_false]
  | succ d ih =>
    intro N i S h0 hi hN e0 h11 h12
    obtain ⟨N, rfl⟩ : ∃ M, N = M + 1 := ⟨N - 1, by omega⟩
    have e1 := h11 i h0 (by omega)
    have b1 := hw i h0 (by omega)
    obtain ⟨S', f1, f2, f3⟩ := ih N (i + 1) (pI S (c0 + 12) (w i) i) (by omega) (by omega) (by omega) (by rw [pI_cell (by omega)]; exact e0) (fun j a b => by rw [pI_cell (by omega)]; exact h11 j a b) (fun j a b => by
      by_cases q : j = i
      · rw [q, pI_eq]
      · rw [pI_idx (fun z => q (hinj j i a (by omega) h0 (by omega) z))]; exact h12 j a (by omega))
    refine ⟨S', ?_, f2, (Fr.refl.pI (A := fun j => j = c0 + 12) rfl).trans f3 (fun _ h => h) (fun _ h => h)⟩
    rw [f_X5_giveNumbers_75]
    simp (disch := omega) only [e0, e1, gI, uI, cI_of, aI_of, sI_of, mnI_of, mxI_of, abI_of, dvI_of, rmI_of, bI_of, bV_of, rI, rV, rL, rP, rT, rZ_of, rC_of, if_pos, if_neg, if_true, if_false]
    exact f1
abbrev row1112 (c0 : Nat) : Nat → Prop := fun j => j = c0 + 11 ∨ j = c0 + 12
/-- w runs through 0 .. m-1: 0 first, the rest by falling persistence -/
def IsW (m : Int) (L P w : Int → Int) : Prop := w 0 = 0 ∧ Srt 1 m (ahd L P) w
theorem IsW.range {L : Int → Int} (h : IsW m L P w) (h0 : 1 ≤ m) : ∀ k, 0 ≤ k → k < m → 0 ≤ w k ∧ w k < m := fun k a b => by
  by_cases e : k = 0
  · rw [e, h.1]; omega
  · have := h.2.1 k (by omega) b; omega
theorem IsW.inj {L : Int → Int} (h : IsW m L P w) : ∀ j k, 0 ≤ j → j < m → 0 ≤ k → k < m → w j = w k → j = k := fun j k a b c d e => by
  by_cases q : j = 0
  · by_cases q2 : k = 0
    · omega
    · rw [q, h.1] at e; have := h.2.1 k (by omega) d; omega
  · by_cases q2 : k = 0
    · rw [q2, h.1] at e; have := h.2.1 j (by omega) b; omega
    · exact Srt.inj ahd_asym h.2 (by omega) b (by omega) d e
theorem IsW.uniq {L w' : Int → Int} (h : IsW m L P w) (h' : IsW m L P w') : ∀ k, 0 ≤ k → k < m → w k = w' k := fun k a b => by
  by_cases e : k = 0
  · rw [e, h.1, h'.1]
  · exact Srt.uniq ahd_asym h.2 h'.2 (k.toNat + 1) k (by omega) (by omega) b
theorem giveNumbers_of (N : Nat) (hG : GN S c0 m P H D) (g : GB m P H D) (h0 : 1 ≤ m) (hm : m ≤ 48) (hinj : ∀ c d, 0 ≤ c → c < m → 0 ≤ d → d < m → P c = P d → c = d) (hN : 200 ≤ N) : ∃ S' w, f_X5_giveNumbers N S c0 = some S' ∧ IsW m (lifeF H D) P w ∧ (∀ k, 0 ≤ k → k < m → S'.1 (c0 + 11) k = w k ∧ S'.1 (c0 + 12) (w k) = k) ∧ Fr (row1112 c0) S S' := by
  have fr0 : Fr (row11 c0) S (pI S (c0 + 11) 0 0) := Fr.refl.pI rfl
  obtain ⟨S1, w1, a1, a2, a3, a4, a5⟩ := numOut (c0 := c0) g hm hinj (m - 1).toNat N 1 (pI S (c0 + 11) 0 0) (fun _ => 0) (by omega) (by omega) (by omega) (hG.kept fr0 (by show ¬ c0 = c0 + 11; omega) (by show ¬ c0 + 5 = c0 + 11; omega) (by show ¬ c0 + 6 = c0 + 11; omega) (by show ¬ c0 + 8 = c0 + 11; omega)) ⟨fun i a b => by omega, fun i j a b c => by omega, fun q a b => by omega⟩ (fun j a b => by omega) pI_eq
  obtain ⟨w, hw⟩ : ∃ w : Int → Int, w = fun k => if k = 0 then 0 else w1 k := ⟨_, rfl⟩
  have w0 : w 0 = 0 := by rw [hw]; rfl
  have wn : ∀ k, k ≠ 0 → w k = w1 k := fun k e => by rw [hw]; exact if_neg e
  have iw : IsW m (lifeF H D) P w := ⟨w0, a2.congr (fun i a b => wn i (by omega))⟩
  have fr1 : Fr (row11 c0) S S1 := fr0.trans a5 (fun _ h => h) (fun _ h => h)
  have r11 : ∀ j, 0 ≤ j → j < m → S1.1 (c0 + 11) j = w j := fun j a b => by
    by_cases e : j = 0
    · rw [e, w0]; exact a4
    · rw [wn j e]; exact a3 j (by omega) b
  obtain ⟨S', b1, b2, b3⟩ := numTell (c0 := c0) hm (iw.range h0) iw.inj m.toNat N 0 S1 (by omega) (by omega) (by omega) (by rw [fr1.at (by show ¬ c0 = c0 + 11; omega)]; exact hG.1) r11 (fun j a b => by omega)
  refine ⟨S', w, ?_, iw, fun k a b => ⟨by rw [b3.at (by show ¬ c0 + 11 = c0 + 12; omega)]; exact r11 k a b, b2 k a b⟩, fr1.trans b3 (fun _ h => Or.inl h) (fun _ h => Or.inr h)⟩
  unfold f_X5_giveNumbers
  simp (disch := omega) only [gI, uI, cI_of, aI_of, sI_of, mnI_of, mxI_of, abI_of, dvI_of, rmI_of, bI_of, bV_of, rI, rV, rL, rP, rT, rZ_of, rC_of, if_pos, if_neg, if_true, if_false]
  rw [a1]
  simp (disch := omega) only [f_X5_giveNumbers_73, gI, uI, cI_of, aI_of, sI_of, mnI_of, mxI_of, abI_of, dvI_of, rmI_of, bI_of, bV_of, rI, rV, rL, rP, rT, rZ_of, rC_of, if_pos, if_neg, if_true, if_false]
  exact b1
end NUMC
