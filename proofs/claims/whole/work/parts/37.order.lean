/-! in what order places come; sorted rows -/
/-- o runs through lo .. n-1, each once, in the order r -/
def Srt (lo n : Int) (r : Int → Int → Prop) (o : Int → Int) : Prop := (∀ i, lo ≤ i → i < n → lo ≤ o i ∧ o i < n) ∧ (∀ i j, lo ≤ i → i < j → j < n → r (o i) (o j)) ∧ (∀ q, lo ≤ q → q < n → ∃ i, lo ≤ i ∧ i < n ∧ o i = q)
theorem Srt.inj {lo n : Int} {r : Int → Int → Prop} {o : Int → Int} (hr : ∀ a b, r a b → ¬ r b a) (h : Srt lo n r o) {i j : Int} (h1 : lo ≤ i) (h2 : i < n) (h3 : lo ≤ j) (h4 : j < n) (e : o i = o j) : i = j := by
  rcases Int.lt_trichotomy i j with g | g | g
  · have := h.2.1 i j h1 g h4
    rw [e] at this
    exact absurd this (hr _ _ this)
  · exact g
  · have := h.2.1 j i h3 g h2
    rw [e] at this
    exact absurd this (hr _ _ this)
theorem Srt.uniq {lo n : Int} {r : Int → Int → Prop} {o o' : Int → Int} (hr : ∀ a b, r a b → ¬ r b a) (h : Srt lo n r o) (h' : Srt lo n r o') : ∀ (d : Nat) (i : Int), lo ≤ i → i < lo + d → i < n → o i = o' i := by
  intro d
  induction d with
  | zero => intro i a b c; omega
  | succ d ih =>
    intro i a b c
    obtain ⟨j, j1, j2, j3⟩ := h'.2.2 (o i) (h.1 i a c).1 (h.1 i a c).2
    obtain ⟨k, k1, k2, k3⟩ := h.2.2 (o' i) (h'.1 i a c).1 (h'.1 i a c).2
    by_cases hj : j < i
    · have e := ih j j1 (by omega) j2
      have := Srt.inj hr h j1 j2 a c (e.trans j3)
      omega
    by_cases hk : k < i
    · have e := ih k k1 (by omega) k2
      have := Srt.inj hr h' k1 k2 a c (e.symm.trans k3)
      omega
    by_cases ji : j = i
    · rw [← j3, ji]
    by_cases ki : k = i
    · rw [← k3, ki]
    have g1 := h'.2.1 i j a (by omega) j2
    have g2 := h.2.1 i k a (by omega) k2
    rw [j3] at g1
    rw [k3] at g2
    exact absurd g1 (hr _ _ g2)
theorem Srt.congr {lo n : Int} {r : Int → Int → Prop} {o o' : Int → Int} (h : Srt lo n r o) (e : ∀ i, lo ≤ i → i < n → o' i = o i) : Srt lo n r o' :=
  ⟨fun i a b => by rw [e i a b]; exact h.1 i a b, fun i j a b c => by rw [e i a (by omega), e j (by omega) c]; exact h.2.1 i j a b c, fun q a b => by
    obtain ⟨i, i1, i2, i3⟩ := h.2.2 q a b
    exact ⟨i, i1, i2, by rw [e i i1 i2]; exact i3⟩⟩
/-- v is put at k, the rest moves up -/
def insO (o : Int → Int) (k v : Int) : Int → Int := fun j => if j < k then o j else if j = k then v else o (j - 1)
theorem insO_lt {o : Int → Int} {k v j : Int} (h : j < k) : insO o k v j = o j := if_pos h
theorem insO_eq {o : Int → Int} {k v : Int} : insO o k v k = v := by unfold insO; rw [if_neg (by omega), if_pos rfl]
theorem insO_gt {o : Int → Int} {k v j : Int} (h : k < j) : insO o k v j = o (j - 1) := by unfold insO; rw [if_neg (by omega), if_neg (by omega)]
theorem Srt.ins {lo m k : Int} {r : Int → Int → Prop} {o : Int → Int} (h : Srt lo m r o) (h1 : lo ≤ k) (h2 : k ≤ m) (ha : ∀ j, lo ≤ j → j < k → r (o j) m) (hb : ∀ j, k ≤ j → j < m → r m (o j)) : Srt lo (m + 1) r (insO o k m) := by
  refine ⟨fun i a b => ?_, fun i j a b c => ?_, fun q a b => ?_⟩
  · rcases Int.lt_trichotomy i k with g | g | g
    · rw [insO_lt g]; have := h.1 i a (by omega); omega
    · rw [g, insO_eq]; omega
    · rw [insO_gt g]; have := h.1 (i - 1) (by omega) (by omega); omega
  · rcases Int.lt_trichotomy i k with g | g | g
    · rw [insO_lt g]
      rcases Int.lt_trichotomy j k with q | q | q
      · rw [insO_lt q]; exact h.2.1 i j a b (by omega)
      · rw [q, insO_eq]; exact ha i a g
      · rw [insO_gt q]; exact h.2.1 i (j - 1) a (by omega) (by omega)
    · rw [g, insO_eq, insO_gt (by omega)]; exact hb (j - 1) (by omega) (by omega)
    · rw [insO_gt g, insO_gt (by omega)]; exact h.2.1 (i - 1) (j - 1) (by omega) (by omega) (by omega)
  · by_cases hq : q = m
    · exact ⟨k, h1, by omega, by rw [insO_eq, hq]⟩
    · obtain ⟨i, i1, i2, i3⟩ := h.2.2 q a (by omega)
      by_cases hi : i < k
      · exact ⟨i, i1, by omega, by rw [insO_lt hi]; exact i3⟩
      · exact ⟨i + 1, by omega, by omega, by rw [insO_gt (by omega), show i + 1 - 1 = i by omega]; exact i3⟩
/-- p comes ahead of q -/
def bef (s : Int → Int) (p q : Int) : Prop := s q < s p ∨ (s p = s q ∧ p < q)
theorem bef_asym {s : Int → Int} : ∀ a b, bef s a b → ¬ bef s b a := fun a b h g => by unfold bef at h g; omega
section SORT
variable {S : S2} {c0 c : Nat} {n z : Int} {s : Int → Int}
/-- the class's peaks c0 lie apart from its curve c -/
def Off (c0 c : Nat) : Prop := c + 1 < c0 ∨ c0 + 13 < c
theorem sortIn {i : Int} {o : Int → Int} (hoff : Off c0 c) (hb : CvB n s) (hn : n ≤ 48) (hi0 : 0 ≤ i) (hi : i < n) (ho : ∀ j, 0 ≤ j → j < i → 0 ≤ o j ∧ o j < n) : ∀ (d N : Nat) (k : Int) (S : S2), k = d → k ≤ i → d < N → CvC S c n s z → (∀ j, 0 ≤ j → j < k → S.1 (c0 + 1) j = o j) → (∀ j, k < j → j ≤ i → S.1 (c0 + 1) j = o (j - 1)) → (∀ j, k ≤ j → j < i → s (o j) < s i) → ∃ S' k', (∀ K, f_X5_sortByHeight_12 c0 c K N i k S = K i k' S') ∧ 0 ≤ k' ∧ k' ≤ i ∧ (∀ j, 0 ≤ j → j < k' → S'.1 (c0 + 1) j = o j) ∧ (∀ j, k' < j → j ≤ i → S'.1 (c0 + 1) j = o (j - 1)) ∧ (∀ j, k' ≤ j → j < i → s (o j) < s i) ∧ (k' = 0 ∨ s i ≤ s (o (k' - 1))) ∧ Fr (rowOf c0) S S' := by
  intro d
  induction d with
  | zero =>
    intro N k S hk hki hN hc h1 h2 h3
    obtain ⟨N, rfl⟩ : ∃ M, N = M + 1 := ⟨N - 1, by omega⟩
    have hk : k = 0 := hk
    refine ⟨S, k, fun K => ?_, by omega, hki, h1, h2, h3, Or.inl hk, Fr.refl⟩
    rw [f_X5_sortByHeight_12]
    simp (disch := omega) only [gI, uI, cI_of, aI_of, sI_of, mnI_of, mxI_of, abI_of, dvI_of, rmI_of, bI_of, bV_of, rI, rV, rL, rP, rT, rZ_of, rC_of, if_pos, if_neg, if_true, if_false]
  | succ d ih =>
    intro N k S hk hki hN hc h1 h2 h3
    obtain ⟨N, rfl⟩ : ∃ M, N = M + 1 := ⟨N - 1, by omega⟩
    have e1 := h1 (k - 1) (by omega) (by omega)
    have ob := ho (k - 1) (by omega) (by omega)
    have e2 := hc.2.2 (o (k - 1)) ob.1 ob.2
    have e3 := hc.2.2 i hi0 hi
    have b1 := hb (o (k - 1)) ob.1 ob.2
    have b2 := hb i hi0 hi
    by_cases g : s i ≤ s (o (k - 1))
    · refine ⟨S, k, fun K => ?_, by omega, hki, h1, h2, h3, Or.inr g, Fr.refl⟩
      rw [f_X5_sortByHeight_12]
      simp (disch := omega) only [e1, e2, e3, gI, uI, cI_of, aI_of, sI_of, mnI_of, mxI_of, abI_of, dvI_of, rmI_of, bI_of, bV_of, rI, rV, rL, rP, rT, rZ_of, rC_of, if_pos, if_neg, if_true, if_false]
    · have fr : Fr (rowOf c0) S (pI S (c0 + 1) k (o (k - 1))) := Fr.refl.pI rfl
      obtain ⟨S', k', f1, f2, f3, f4, f5, f6, f7, f8⟩ := ih N (k + (-1)) (pI S (c0 + 1) k (o (k - 1))) (by omega) (by omega) (by omega) (hc.kept fr (by unfold Off at hoff; show ¬ c = c0 + 1; omega) (by unfold Off at hoff; show ¬ c + 1 = c0 + 1; omega))
        (fun j a b => by rw [pI_idx (by omega)]; exact h1 j a (by omega))
        (fun j a b => by
          by_cases q : j = k
          · rw [q, pI_eq]
          · rw [pI_idx q]; exact h2 j (by omega) b)
        (fun j a b => by
          by_cases q : j = k - 1
          · rw [q]; omega
          · exact h3 j (by omega) b)
      refine ⟨S', k', fun K => ?_, f2, f3, f4, f5, f6, f7, fr.trans f8 (fun _ h => h) (fun _ h => h)⟩
      rw [f_X5_sortByHeight_12]
      simp (disch := omega) only [e1, e2, e3, gI, uI, cI_of, aI_of, sI_of, mnI_of, mxI_of, abI_of, dvI_of, rmI_of, bI_of, bV_of, rI, rV, rL, rP, rT, rZ_of, rC_of, if_pos, if_neg, if_true, if_false]
      exact f1 K
theorem sortOut (hoff : Off c0 c) (hb : CvB n s) (hn : n ≤ 48) : ∀ (d N : Nat) (i : Int) (S : S2) (o : Int → Int), 0 ≤ i → i + d = n → d + 60 < N → CvC S c n s z → Srt 0 i (bef s) o → (∀ j, 0 ≤ j → j < i → S.1 (c0 + 1) j = o j) → ∃ S' o', f_X5_sortByHeight_2 c0 c N i S = some S' ∧ Srt 0 n (bef s) o' ∧ (∀ j, 0 ≤ j → j < n → S'.1 (c0 + 1) j = o' j) ∧ Fr (rowOf c0) S S' := by
  intro d
  induction d with
  | zero =>
    intro N i S o h0 hi hN hc hs ho
    obtain ⟨N, rfl⟩ : ∃ M, N = M + 1 := ⟨N - 1, by omega⟩
    have hcn := hc.1
    have hi : i = n := by omega
    subst hi
    refine ⟨S, o, ?_, hs, ho, Fr.refl⟩
    rw [f_X5_sortByHeight_2]
    simp (disch := omega) only [gI, uI, cI_of, aI_of, sI_of, mnI_of, mxI_of, abI_of, dvI_of, rmI_of, bI_of, bV_of, rI, rV, rL, rP, rT, rZ_of, rC_of, if_pos, if_neg, if_true, if_false]
  | succ d ih =>
    intro N i S o h0 hi hN hc hs ho
    obtain ⟨N, rfl⟩ : ∃ M, N = M + 1 := ⟨N - 1, by omega⟩
    have hcn := hc.1
    obtain ⟨S1, k', f1, f2, f3, f4, f5, f6, f7, f8⟩ := sortIn (z := z) hoff hb hn h0 (by omega) (fun j a b => by have := hs.1 j a b; omega) i.toNat N i S (by omega) (by omega) (by omega) hc ho (fun j a b => by omega) (fun j a b => by omega)
    have fr : Fr (rowOf c0) S (pI S1 (c0 + 1) k' i) := f8.pI rfl
    obtain ⟨S', o', g1, g2, g3, g4⟩ := ih N (i + 1) (pI S1 (c0 + 1) k' i) (insO o k' i) (by omega) (by omega) (by omega) (hc.kept fr (by unfold Off at hoff; show ¬ c = c0 + 1; omega) (by unfold Off at hoff; show ¬ c + 1 = c0 + 1; omega))
      (hs.ins f2 f3 (fun j a b => by
        have p1 := hs.1 j a (by omega)
        rcases f7 with q | q
        · omega
        · by_cases hj : j = k' - 1
          · rw [hj]; have := hs.1 (k' - 1) (by omega) (by omega); unfold bef; omega
          · have p2 := hs.2.1 j (k' - 1) a (by omega) (by omega)
            unfold bef at p2 ⊢; omega) (fun j a b => Or.inl (f6 j a b)))
      (fun j a b => by
        rcases Int.lt_trichotomy j k' with q | q | q
        · rw [insO_lt q, pI_idx (by omega)]; exact f4 j a q
        · rw [q, insO_eq, pI_eq]
        · rw [insO_gt q, pI_idx (by omega)]; exact f5 j q (by omega))
    refine ⟨S', o', ?_, g2, g3, fr.trans g4 (fun _ h => h) (fun _ h => h)⟩
    rw [f_X5_sortByHeight_2]
    simp (disch := omega) only [hcn, gI, uI, cI_of, aI_of, sI_of, mnI_of, mxI_of, abI_of, dvI_of, rmI_of, bI_of, bV_of, rI, rV, rL, rP, rT, rZ_of, rC_of, if_pos, if_neg, if_true, if_false]
    rw [f1]
    simp (disch := omega) only [f_X5_sortByHeight_58, gI, uI, cI_of, aI_of, sI_of, mnI_of, mxI_of, abI_of, dvI_of, rmI_of, bI_of, bV_of, rI, rV, rL, rP, rT, rZ_of, rC_of, if_pos, if_neg, if_true, if_false]
    exact g1
theorem sort_of (N : Nat) (hoff : Off c0 c) (hc : CvC S c n s z) (hb : CvB n s) (h0 : 0 ≤ n) (hn : n ≤ 48) (hN : 200 ≤ N) : ∃ S' o, f_X5_sortByHeight N S c0 c = some S' ∧ Srt 0 n (bef s) o ∧ (∀ j, 0 ≤ j → j < n → S'.1 (c0 + 1) j = o j) ∧ Fr (rowOf c0) S S' :=
  sortOut (z := z) hoff hb hn n.toNat N 0 S (fun _ => 0) (by omega) (by omega) (by omega) hc ⟨fun i a b => by omega, fun i j a b c => by omega, fun q a b => by omega⟩ (fun j a b => by omega)
/-- a row of places in their order -/
theorem ord_ex (h0 : 0 ≤ n) (hn : n ≤ 48) (hb : CvB n s) : ∃ o, Srt 0 n (bef s) o := by
  obtain ⟨S', o, -, h, -⟩ := sort_of (S := ((fun i k => if i = 0 then (if k = 1 then n else 0) else s k), fun _ _ => 0)) (c0 := 5) (c := 0) (n := n) (z := 0) (s := s) 200 (Or.inl (by decide)) ⟨rfl, rfl, fun i a b => rfl⟩ hb h0 hn (by decide)
  exact ⟨o, h⟩
end SORT
section NEXT
variable {S : S2} {n z : Int} {s : Int → Int}
theorem isAheadM_y (N : Nat) (hc : CvM S 8 n s z) (hb : CvB n s) (hn : n ≤ 48) {p q : Int} (h1 : 0 ≤ p) (h2 : p < n) (h3 : 0 ≤ q) (h4 : q < n) (h : bef s p q) : f_X11_isAhead N S p q = some (1, S) := by
  have e1 := hc.2.2 p h1 h2
  have e2 := hc.2.2 q h3 h4
  have b1 := hb p h1 h2
  have b2 := hb q h3 h4
  unfold bef at h
  unfold f_X11_isAhead f_X11_isAhead_35
  by_cases g : s q < s p
  · simp (disch := omega) only [e1, e2, gI, uI, cI_of, aI_of, sI_of, mnI_of, mxI_of, abI_of, dvI_of, rmI_of, bI_of, bV_of, rI, rV, rL, rP, rT, rZ_of, rC_of, if_pos, if_neg, if_true, if_false]
  · simp (disch := omega) only [e1, e2, gI, uI, cI_of, aI_of, sI_of, mnI_of, mxI_of, abI_of, dvI_of, rmI_of, bI_of, bV_of, rI, rV, rL, rP, rT, rZ_of, rC_of, if_pos, if_neg, if_true, if_false]
theorem isAheadM_n (N : Nat) (hc : CvM S 8 n s z) (hb : CvB n s) (hn : n ≤ 48) {p q : Int} (h1 : 0 ≤ p) (h2 : p < n) (h3 : 0 ≤ q) (h4 : q < n) (h : ¬ bef s p q) : f_X11_isAhead N S p q = some (0, S) := by
  have e1 := hc.2.2 p h1 h2
  have e2 := hc.2.2 q h3 h4
  have b1 := hb p h1 h2
  have b2 := hb q h3 h4
  unfold bef at h
  unfold f_X11_isAhead f_X11_isAhead_35
  by_cases g : s p = s q
  · simp (disch := omega) only [e1, e2, gI, uI, cI_of, aI_of, sI_of, mnI_of, mxI_of, abI_of, dvI_of, rmI_of, bI_of, bV_of, rI, rV, rL, rP, rT, rZ_of, rC_of, if_pos, if_neg, if_true, if_false]
  · simp (disch := omega) only [e1, e2, gI, uI, cI_of, aI_of, sI_of, mnI_of, mxI_of, abI_of, dvI_of, rmI_of, bI_of, bV_of, rI, rV, rL, rP, rT, rZ_of, rC_of, if_pos, if_neg, if_true, if_false]
/-- the best of the first i places behind p -/
def BestN (s : Int → Int) (p i b : Int) : Prop := (b = -1 ∧ ∀ q, 0 ≤ q → q < i → ¬ (p = -1 ∨ bef s p q)) ∨ (0 ≤ b ∧ b < i ∧ (p = -1 ∨ bef s p b) ∧ ∀ q, 0 ≤ q → q < i → (p = -1 ∨ bef s p q) → q = b ∨ bef s b q)
theorem nextLoop (hc : CvM S 8 n s z) (hb : CvB n s) (hn : n ≤ 48) {p : Int} (hp1 : -1 ≤ p) (hp2 : p < n) : ∀ (d N : Nat) (i b : Int), 0 ≤ i → i + d = n → d < N → BestN s p i b → ∃ b', f_X11_nextBehind_4 N p b i S = some (b', S) ∧ BestN s p n b' := by
  intro d
  induction d with
  | zero =>
    intro N i b h0 hi hN hB
    obtain ⟨N, rfl⟩ : ∃ M, N = M + 1 := ⟨N - 1, by omega⟩
    have hi : i = n := by omega
    subst hi
    refine ⟨b, ?_, hB⟩
    rw [f_X11_nextBehind_4]
    simp (disch := omega) only [many_of N hc, gI, uI, cI_of, aI_of, sI_of, mnI_of, mxI_of, abI_of, dvI_of, rmI_of, bI_of, bV_of, rI, rV, rL, rP, rT, rZ_of, rC_of, if_pos, if_neg, if_true, if_false]
  | succ d ih =>
    intro N i b h0 hi hN hB
    obtain ⟨N, rfl⟩ : ∃ M, N = M + 1 := ⟨N - 1, by omega⟩
    have bb : -1 ≤ b ∧ b < i := by rcases hB with h | h <;> omega
    have stay : (¬ (p = -1 ∨ bef s p i) ∨ (0 ≤ b ∧ ¬ bef s i b)) → BestN s p (i + 1) b := fun h => by
      rcases hB with ⟨h1, h2⟩ | ⟨h1, h2, h3, h4⟩
      · refine Or.inl ⟨h1, fun q a c => ?_⟩
        by_cases hq : q = i
        · rw [hq]; rcases h with h | h
          · exact h
          · omega
        · exact h2 q a (by omega)
      · refine Or.inr ⟨h1, by omega, h3, fun q a c hq => ?_⟩
        by_cases e : q = i
        · rcases h with h | h
          · rw [e] at hq; exact absurd hq h
          · rw [e]; right; have := h.2; unfold bef at this ⊢; omega
        · exact h4 q a (by omega) hq
    have take : (p = -1 ∨ bef s p i) → (b = -1 ∨ bef s i b) → BestN s p (i + 1) i := fun h g => by
      refine Or.inr ⟨h0, by omega, h, fun q a c hq => ?_⟩
      by_cases e : q = i
      · exact Or.inl e
      · right
        rcases hB with ⟨h1, h2⟩ | ⟨h1, h2, h3, h4⟩
        · exact absurd hq (h2 q a (by omega))
        · have g2 : bef s i b := g.elim (fun z => by omega) id
          rcases h4 q a (by omega) hq with k | k
          · rw [k]; exact g2
          · unfold bef at k g2 ⊢; omega
    -- is candidate
    have cand : (p = -1 ∨ bef s p i) → ∃ b', f_X11_nextBehind_26 (f_X11_nextBehind_4 N) N p b i S = some (b', S) ∧ BestN s p n b' := fun h => by
      rw [f_X11_nextBehind_26, f_X11_nextBehind_31]
      by_cases e : b = -1
      · obtain ⟨b', f1, f2⟩ := ih N (i + 1) i (by omega) (by omega) (by omega) (take h (Or.inl e))
        refine ⟨b', ?_, f2⟩
        simp (disch := omega) only [f_X11_nextBehind_52, f_X11_nextBehind_57, gI, uI, cI_of, aI_of, sI_of, mnI_of, mxI_of, abI_of, dvI_of, rmI_of, bI_of, bV_of, rI, rV, rL, rP, rT, rZ_of, rC_of, if_pos, if_neg, if_true, if_false]
        exact f1
      · by_cases g : bef s i b
        · obtain ⟨b', f1, f2⟩ := ih N (i + 1) i (by omega) (by omega) (by omega) (take h (Or.inr g))
          refine ⟨b', ?_, f2⟩
          have a := isAheadM_y N hc hb hn h0 (by omega) (by omega : 0 ≤ b) (by omega) g
          simp (disch := omega) only [f_X11_nextBehind_52, f_X11_nextBehind_57, a, gI, uI, cI_of, aI_of, sI_of, mnI_of, mxI_of, abI_of, dvI_of, rmI_of, bI_of, bV_of, rI, rV, rL, rP, rT, rZ_of, rC_of, if_pos, if_neg, if_true, if_false]
          exact f1
        · obtain ⟨b', f1, f2⟩ := ih N (i + 1) b (by omega) (by omega) (by omega) (stay (Or.inr ⟨by omega, g⟩))
          refine ⟨b', ?_, f2⟩
          have a := isAheadM_n N hc hb hn h0 (by omega) (by omega : 0 ≤ b) (by omega) g
          simp (disch := omega) only [f_X11_nextBehind_56, f_X11_nextBehind_57, a, gI, uI, cI_of, aI_of, sI_of, mnI_of, mxI_of, abI_of, dvI_of, rmI_of, bI_of, bV_of, rI, rV, rL, rP, rT, rZ_of, rC_of, if_pos, if_neg, if_true, if_false]
          exact f1
    rw [f_X11_nextBehind_4]
    by_cases e : p = -1
    · obtain ⟨b', f1, f2⟩ := cand (Or.inl e)
      refine ⟨b', ?_, f2⟩
      simp (disch := omega) only [many_of N hc, gI, uI, cI_of, aI_of, sI_of, mnI_of, mxI_of, abI_of, dvI_of, rmI_of, bI_of, bV_of, rI, rV, rL, rP, rT, rZ_of, rC_of, if_pos, if_neg, if_true, if_false]
      exact f1
    · by_cases g : bef s p i
      · obtain ⟨b', f1, f2⟩ := cand (Or.inr g)
        refine ⟨b', ?_, f2⟩
        have a := isAheadM_y N hc hb hn (by omega : 0 ≤ p) hp2 h0 (by omega) g
        simp (disch := omega) only [many_of N hc, a, gI, uI, cI_of, aI_of, sI_of, mnI_of, mxI_of, abI_of, dvI_of, rmI_of, bI_of, bV_of, rI, rV, rL, rP, rT, rZ_of, rC_of, if_pos, if_neg, if_true, if_false]
        exact f1
      · obtain ⟨b', f1, f2⟩ := ih N (i + 1) b (by omega) (by omega) (by omega) (stay (Or.inl (fun h => h.elim e g)))
        refine ⟨b', ?_, f2⟩
        have a := isAheadM_n N hc hb hn (by omega : 0 ≤ p) hp2 h0 (by omega) g
        simp (disch := omega) only [many_of N hc, a, f_X11_nextBehind_31, f_X11_nextBehind_56, f_X11_nextBehind_57, gI, uI, cI_of, aI_of, sI_of, mnI_of, mxI_of, abI_of, dvI_of, rmI_of, bI_of, bV_of, rI, rV, rL, rP, rT, rZ_of, rC_of, if_pos, if_neg, if_true, if_false]
        exact f1
/-- behind the t-th comes the next one; behind none the first -/
theorem next_of (N : Nat) {o : Int → Int} (ho : Srt 0 n (bef s) o) (hc : CvM S 8 n s z) (hb : CvB n s) (h0 : 0 ≤ n) (hn : n ≤ 48) (hN : 100 ≤ N) {t : Int} (h1 : -1 ≤ t) (h2 : t < n) : f_X11_nextBehind N S (if t = -1 then -1 else o t) = some (if t + 1 < n then o (t + 1) else -1, S) := by
  have hp : -1 ≤ (if t = -1 then -1 else o t) ∧ (if t = -1 then -1 else o t) < n := by
    by_cases e : t = -1
    · rw [if_pos e]; omega
    · rw [if_neg e]; have := ho.1 t (by omega) h2; omega
  have cd : ∀ u, 0 ≤ u → u < n → (((if t = -1 then -1 else o t) = -1 ∨ bef s (if t = -1 then -1 else o t) (o u)) ↔ t < u) := fun u a b => by
    by_cases e : t = -1
    · rw [if_pos e]; exact ⟨fun _ => by omega, fun _ => Or.inl rfl⟩
    · rw [if_neg e]
      have g := ho.1 t (by omega) h2
      constructor
      · intro h
        rcases h with h | h
        · omega
        · rcases Int.lt_trichotomy t u with q | q | q
          · exact q
          · rw [q] at h; exact absurd h (bef_asym _ _ h)
          · exact absurd h (bef_asym _ _ (ho.2.1 u t a q h2))
      · intro h; exact Or.inr (ho.2.1 t u (by omega) h b)
  obtain ⟨b', f1, f2⟩ := nextLoop hc hb hn hp.1 hp.2 n.toNat N 0 (-1) (by omega) (by omega) (by omega) (Or.inl ⟨rfl, fun q a b => by omega⟩)
  unfold f_X11_nextBehind
  rw [f1]
  congr 2
  by_cases e : t + 1 < n
  · rw [if_pos e]
    have g := ho.1 (t + 1) (by omega) e
    have c1 := (cd (t + 1) (by omega) e).mpr (by omega)
    rcases f2 with ⟨q1, q2⟩ | ⟨q1, q2, q3, q4⟩
    · exact absurd c1 (q2 _ g.1 g.2)
    · obtain ⟨u, u1, u2, u3⟩ := ho.2.2 b' q1 q2
      rw [← u3] at q3
      have hu := (cd u u1 u2).mp q3
      rcases q4 _ g.1 g.2 c1 with k | k
      · exact k.symm
      · by_cases w : u = t + 1
        · rw [← u3, w]
        · have := ho.2.1 (t + 1) u (by omega) (by omega) u2
          rw [u3] at this
          exact absurd k (bef_asym _ _ this)
  · rw [if_neg e]
    rcases f2 with ⟨q1, q2⟩ | ⟨q1, q2, q3, q4⟩
    · exact q1
    · obtain ⟨u, u1, u2, u3⟩ := ho.2.2 b' q1 q2
      rw [← u3] at q3
      have hu := (cd u u1 u2).mp q3
      omega
end NEXT
