/-! the class's find, whole -/
noncomputable def pkH (n : Int) (s : Int → Int) : Int → Int := fun c => s (pkP n s c)
noncomputable def pkL (n : Int) (s : Int → Int) : Int → Int := lifeF (pkH n s) (pkD n s)
noncomputable def pkW (n : Int) (s : Int → Int) : Int → Int := Classical.epsilon (fun w => IsW (pkC n s) (pkL n s) (pkP n s) w)
/-- how many generations above c -/
def gF (A : Int → Int) : Nat → Int → Int
  | 0, _ => 0
  | f + 1, c => if A c = -1 then 0 else gF A f (A c) + 1
noncomputable def pkG (n : Int) (s : Int → Int) : Int → Int := gF (pkA n s) 48
/-- from k on, as long as the life is above z -/
def kpF (L : Int → Int) (z : Int) : Nat → Int → Int
  | 0, k => k
  | d + 1, k => if z < L k then kpF L z d (k + 1) else k
noncomputable def pkK (n : Int) (s : Int → Int) (z : Int) : Int := kpF (fun k => pkL n s (pkW n s k)) z ((pkC n s).toNat - 1) 1
theorem kpF_in {L : Int → Int} {z : Int} : ∀ (d : Nat) (k : Int), (k ≤ kpF L z d k ∧ kpF L z d k ≤ k + d) ∧ (∀ j, k ≤ j → j < kpF L z d k → z < L j) ∧ (kpF L z d k < k + d → L (kpF L z d k) ≤ z)
  | 0, k => ⟨⟨Int.le_refl k, by show k ≤ k + 0; omega⟩, fun j a b => by have b : j < k := b; omega, fun h => by have h : k < k + 0 := h; omega⟩
  | d + 1, k => by
    rw [kpF]
    by_cases g : z < L k
    · rw [if_pos g]
      obtain ⟨h1, h2, h3⟩ := kpF_in (L := L) (z := z) d (k + 1)
      refine ⟨by omega, fun j a b => ?_, fun h => h3 (by omega)⟩
      by_cases e : j = k
      · rw [e]; exact g
      · exact h2 j (by omega) b
    · rw [if_neg g]
      exact ⟨by omega, fun j a b => by omega, fun _ => by omega⟩
section GEN
variable {A : Int → Int} {m : Int}
theorem gF_stable (hA : ∀ c, 0 ≤ c → c < m → A c = -1 ∨ (0 ≤ A c ∧ A c < c)) : ∀ (f : Nat) (c : Int), 0 ≤ c → c < m → c < f → gF A f c = gF A (f + 1) c
  | 0, c, h0, _, h => by omega
  | f + 1, c, h0, h1, h => by
    rw [gF, gF]
    by_cases g : A c = -1
    · rw [if_pos g, if_pos g]
    · rw [if_neg g, if_neg g]
      have := hA c h0 h1
      rw [gF_stable hA f (A c) (by omega) (by omega) (by omega)]
theorem gF_in (hA : ∀ c, 0 ≤ c → c < m → A c = -1 ∨ (0 ≤ A c ∧ A c < c)) : ∀ (f : Nat) (c : Int), 0 ≤ c → c < m → 0 ≤ gF A f c ∧ gF A f c ≤ c
  | 0, c, h0, _ => ⟨Int.le_refl 0, h0⟩
  | f + 1, c, h0, h1 => by
    rw [gF]
    by_cases g : A c = -1
    · rw [if_pos g]; omega
    · rw [if_neg g]
      have := hA c h0 h1
      have := gF_in hA f (A c) (by omega) (by omega)
      omega
end GEN
section FIND
variable {S : S2} {c0 c : Nat} {n z : Int} {s : Int → Int}
theorem pkA_in (h0 : 1 ≤ n) (hn : n ≤ 48) (hb : CvB n s) : ∀ c, 0 ≤ c → c < pkC n s → pkA n s c = -1 ∨ (0 ≤ pkA n s c ∧ pkA n s c < c) := fun c a b => by
  obtain ⟨-, -, -, f4, f5⟩ := pk_facts h0 hn hb
  by_cases e : c = 0
  · rw [e]; exact Or.inl f4.1
  · exact Or.inr (f5 c (by omega) b).1
theorem pkG_step (h0 : 1 ≤ n) (hn : n ≤ 48) (hb : CvB n s) {c : Int} (h1 : 0 ≤ c) (h2 : c < pkC n s) : pkG n s c = if pkA n s c = -1 then 0 else pkG n s (pkA n s c) + 1 := by
  have f1 := (pk_facts h0 hn hb).1
  unfold pkG
  rw [gF_stable (pkA_in h0 hn hb) 48 c h1 h2 (by omega), gF]
theorem pkGB (h0 : 1 ≤ n) (hn : n ≤ 48) (hb : CvB n s) : GB (pkC n s) (pkP n s) (pkH n s) (pkD n s) := fun c a b => by
  obtain ⟨-, f2, -⟩ := pk_facts h0 hn hb
  have := f2 c a b
  have h := hb _ this.1.1 this.1.2
  exact ⟨by omega, h, this.2.1⟩
theorem pkW_ok (h0 : 1 ≤ n) (hn : n ≤ 48) (hb : CvB n s) : IsW (pkC n s) (pkL n s) (pkP n s) (pkW n s) := by
  obtain ⟨f1, f2, f3, -⟩ := pk_facts h0 hn hb
  obtain ⟨S', w, -, h, -⟩ := giveNumbers_of (S := ((fun i k => if i = 0 then pkC n s else if i = 5 then pkP n s k else if i = 6 then pkH n s k else pkD n s k), fun _ _ => 0)) (c0 := 0) (m := pkC n s) (P := pkP n s) (H := pkH n s) (D := pkD n s) 200 ⟨rfl, fun c _ _ => ⟨rfl, rfl, rfl⟩⟩ (pkGB h0 hn hb) f1.1 (by omega) f3 (by decide)
  exact Classical.epsilon_spec (p := fun w => IsW (pkC n s) (pkL n s) (pkP n s) w) ⟨w, h⟩
/-- lives fall -/
theorem pkL_falls (h0 : 1 ≤ n) (hn : n ≤ 48) (hb : CvB n s) {j k : Int} (h1 : 1 ≤ j) (h2 : j ≤ k) (h3 : k < pkC n s) : pkL n s (pkW n s k) ≤ pkL n s (pkW n s j) := by
  by_cases e : j = k
  · rw [e]; exact Int.le_refl _
  · have := (pkW_ok h0 hn hb).2.2.1 j k h1 (by omega) h3
    unfold ahd at this; omega
theorem pkL_in (h0 : 1 ≤ n) (hn : n ≤ 48) (hb : CvB n s) {c : Int} (h1 : 0 ≤ c) (h2 : c < pkC n s) : 0 ≤ pkL n s c ∧ pkL n s c ≤ 999 := by
  obtain ⟨-, f2, -⟩ := pk_facts h0 hn hb
  have g := f2 c h1 h2
  have h := hb _ g.1.1 g.1.2
  unfold pkL lifeF pkH; omega
/-- the class's peaks at c0 are those of n samples s, under the noise z -/
def CP (S : S2) (c0 : Nat) (n : Int) (s : Int → Int) (z : Int) : Prop :=
  S.1 c0 0 = pkC n s ∧ S.1 c0 1 = pkK n s z ∧ (∀ c, 0 ≤ c → c < pkC n s → S.1 (c0 + 5) c = pkP n s c ∧ S.1 (c0 + 6) c = pkH n s c ∧ S.1 (c0 + 7) c = pkV n s c ∧ S.1 (c0 + 8) c = pkD n s c ∧ S.1 (c0 + 9) c = pkA n s c ∧ S.1 (c0 + 10) c = pkG n s c) ∧ (∀ k, 0 ≤ k → k < pkC n s → S.1 (c0 + 11) k = pkW n s k ∧ S.1 (c0 + 12) (pkW n s k) = k)
theorem CP.kept {A : Nat → Prop} {S' : S2} (h : CP S c0 n s z) (f : Fr A S S') (hA : ∀ j, c0 ≤ j → j ≤ c0 + 12 → ¬ A j) : CP S' c0 n s z := by
  obtain ⟨h1, h2, h3, h4⟩ := h
  refine ⟨by rw [f.at (hA _ (by omega) (by omega))]; exact h1, by rw [f.at (hA _ (by omega) (by omega))]; exact h2, fun c a b => ?_, fun k a b => ?_⟩
  · rw [f.at (hA _ (by omega) (by omega)), f.at (hA _ (by omega) (by omega)), f.at (hA _ (by omega) (by omega)), f.at (hA _ (by omega) (by omega)), f.at (hA _ (by omega) (by omega)), f.at (hA _ (by omega) (by omega))]; exact h3 c a b
  · rw [f.at (hA _ (by omega) (by omega)), f.at (hA _ (by omega) (by omega))]; exact h4 k a b
abbrev allP (c0 : Nat) : Nat → Prop := fun j => c0 ≤ j ∧ j ≤ c0 + 12
theorem CvC.offP {S' : S2} (hc : CvC S c n s z) (hoff : Off c0 c) (f : Fr (allP c0) S S') : CvC S' c n s z := hc.kept f (by unfold Off at hoff; show ¬ (c0 ≤ c ∧ _); omega) (by unfold Off at hoff; show ¬ (c0 ≤ c + 1 ∧ _); omega)
theorem tellGen {A : Int → Int} {m : Int} (hm : m ≤ 48) (hA : ∀ c, 0 ≤ c → c < m → A c = -1 ∨ (0 ≤ A c ∧ A c < c)) (hA1 : ∀ c, 1 ≤ c → c < m → A c ≠ -1) : ∀ (d N : Nat) (i : Int) (S : S2), 1 ≤ i → i + d = m → d < N → S.1 c0 0 = m → (∀ c, 0 ≤ c → c < m → S.1 (c0 + 9) c = A c) → (∀ c, 0 ≤ c → c < i → S.1 (c0 + 10) c = gF A 48 c) → ∃ S', f_X5_tellGenerations_9 c0 N i S = some S' ∧ (∀ c, 0 ≤ c → c < m → S'.1 (c0 + 10) c = gF A 48 c) ∧ Fr (fun j => j = c0 + 10) S S' := by
  intro d
  induction d with
  | zero =>
    intro N i S h0 hi hN e0 h9 h10
    obtain ⟨N, rfl⟩ : ∃ M, N = M + 1 := ⟨N - 1, by omega⟩
    refine ⟨S, ?_, fun c a b => h10 c a (by omega), Fr.refl⟩
    rw [f_X5_tellGenerations_9]
    simp (disch := omega) only [gI, uI, cI_of, aI_of, sI_of, mnI_of, mxI_of, abI_of, dvI_of, rmI_of, bI_of, bV_of, rI, rV, rL, rP, rT, rZ_of, rC_of, if_pos, if_neg, if_true, if_false]
  | succ d ih =>
    intro N i S h0 hi hN e0 h9 h10
    obtain ⟨N, rfl⟩ : ∃ M, N = M + 1 := ⟨N - 1, by omega⟩
    have e9 := h9 i (by omega) (by omega)
    have a1 := hA i (by omega) (by omega)
    have a2 := hA1 i h0 (by omega)
    have e10 := h10 (A i) (by omega) (by omega)
    have st : gF A 48 i = gF A 48 (A i) + 1 := by
      rw [gF_stable hA 48 i (by omega) (by omega) (by omega), gF, if_neg a2]
    have gb := gF_in hA 48 (A i) (by omega) (by omega)
    obtain ⟨S', f1, f2, f3⟩ := ih N (i + 1) (pI S (c0 + 10) i (gF A 48 i)) (by omega) (by omega) (by omega) (by rw [pI_cell (by omega)]; exact e0) (fun c a b => by rw [pI_cell (by omega)]; exact h9 c a b) (fun c a b => by
      by_cases e : c = i
      · rw [e, pI_eq]
      · rw [pI_idx e]; exact h10 c a (by omega))
    refine ⟨S', ?_, f2, (Fr.refl.pI (A := fun j => j = c0 + 10) rfl).trans f3 (fun _ h => h) (fun _ h => h)⟩
    rw [f_X5_tellGenerations_9]
    simp (disch := omega) only [e0, e9, e10, f_X5_tellGenerations_50, gI, uI, cI_of, aI_of, sI_of, mnI_of, mxI_of, abI_of, dvI_of, rmI_of, bI_of, bV_of, rI, rV, rL, rP, rT, rZ_of, rC_of, if_pos, if_neg, if_true, if_false]
    rw [← st]
    exact f1
/-- reads of the class's peaks by number -/
theorem placeC_of (N : Nat) (h : CP S c0 n s z) (h0 : 1 ≤ n) (hn : n ≤ 48) (hb : CvB n s) {k : Int} (h1 : 0 ≤ k) (h2 : k < pkC n s) : f_X5_placeOf N S c0 k = some (pkP n s (pkW n s k), S) := by
  have f1 := (pk_facts h0 hn hb).1
  have w := (pkW_ok h0 hn hb).range f1.1 k h1 h2
  have e1 := (h.2.2.2 k h1 h2).1
  have e2 := (h.2.2.1 _ w.1 w.2).1
  unfold f_X5_placeOf
  simp (disch := omega) only [e1, e2, gI, uI, cI_of, aI_of, sI_of, mnI_of, mxI_of, abI_of, dvI_of, rmI_of, bI_of, bV_of, rI, rV, rL, rP, rT, rZ_of, rC_of, if_pos, if_neg, if_true, if_false]
theorem heightC_of (N : Nat) (h : CP S c0 n s z) (h0 : 1 ≤ n) (hn : n ≤ 48) (hb : CvB n s) {k : Int} (h1 : 0 ≤ k) (h2 : k < pkC n s) : f_X5_heightOf N S c0 k = some (pkH n s (pkW n s k), S) := by
  have f1 := (pk_facts h0 hn hb).1
  have w := (pkW_ok h0 hn hb).range f1.1 k h1 h2
  have e1 := (h.2.2.2 k h1 h2).1
  have e2 := (h.2.2.1 _ w.1 w.2).2.1
  unfold f_X5_heightOf
  simp (disch := omega) only [e1, e2, gI, uI, cI_of, aI_of, sI_of, mnI_of, mxI_of, abI_of, dvI_of, rmI_of, bI_of, bV_of, rI, rV, rL, rP, rT, rZ_of, rC_of, if_pos, if_neg, if_true, if_false]
theorem valleyC_of (N : Nat) (h : CP S c0 n s z) (h0 : 1 ≤ n) (hn : n ≤ 48) (hb : CvB n s) {k : Int} (h1 : 0 ≤ k) (h2 : k < pkC n s) : f_X5_valleyOf N S c0 k = some (pkV n s (pkW n s k), S) := by
  have f1 := (pk_facts h0 hn hb).1
  have w := (pkW_ok h0 hn hb).range f1.1 k h1 h2
  have e1 := (h.2.2.2 k h1 h2).1
  have e2 := (h.2.2.1 _ w.1 w.2).2.2.1
  unfold f_X5_valleyOf
  simp (disch := omega) only [e1, e2, gI, uI, cI_of, aI_of, sI_of, mnI_of, mxI_of, abI_of, dvI_of, rmI_of, bI_of, bV_of, rI, rV, rL, rP, rT, rZ_of, rC_of, if_pos, if_neg, if_true, if_false]
theorem deathC_of (N : Nat) (h : CP S c0 n s z) (h0 : 1 ≤ n) (hn : n ≤ 48) (hb : CvB n s) {k : Int} (h1 : 0 ≤ k) (h2 : k < pkC n s) : f_X5_deathOf N S c0 k = some (pkD n s (pkW n s k), S) := by
  have f1 := (pk_facts h0 hn hb).1
  have w := (pkW_ok h0 hn hb).range f1.1 k h1 h2
  have e1 := (h.2.2.2 k h1 h2).1
  have e2 := (h.2.2.1 _ w.1 w.2).2.2.2.1
  unfold f_X5_deathOf
  simp (disch := omega) only [e1, e2, gI, uI, cI_of, aI_of, sI_of, mnI_of, mxI_of, abI_of, dvI_of, rmI_of, bI_of, bV_of, rI, rV, rL, rP, rT, rZ_of, rC_of, if_pos, if_neg, if_true, if_false]
theorem persC_of (N : Nat) (h : CP S c0 n s z) (h0 : 1 ≤ n) (hn : n ≤ 48) (hb : CvB n s) {k : Int} (h1 : 0 ≤ k) (h2 : k < pkC n s) : f_X5_persistenceOf N S c0 k = some (pkL n s (pkW n s k), S) := by
  unfold f_X5_persistenceOf
  simp (disch := omega) only [heightC_of N h h0 hn hb h1 h2, deathC_of N h h0 hn hb h1 h2, gI, uI, cI_of, aI_of, sI_of, mnI_of, mxI_of, abI_of, dvI_of, rmI_of, bI_of, bV_of, rI, rV, rL, rP, rT, rZ_of, rC_of, if_pos, if_neg, if_true, if_false]
  rfl
theorem genC_of (N : Nat) (h : CP S c0 n s z) (h0 : 1 ≤ n) (hn : n ≤ 48) (hb : CvB n s) {k : Int} (h1 : 0 ≤ k) (h2 : k < pkC n s) : f_X5_generationOf N S c0 k = some (pkG n s (pkW n s k), S) := by
  have f1 := (pk_facts h0 hn hb).1
  have w := (pkW_ok h0 hn hb).range f1.1 k h1 h2
  have e1 := (h.2.2.2 k h1 h2).1
  have e2 := (h.2.2.1 _ w.1 w.2).2.2.2.2.2
  unfold f_X5_generationOf
  simp (disch := omega) only [e1, e2, gI, uI, cI_of, aI_of, sI_of, mnI_of, mxI_of, abI_of, dvI_of, rmI_of, bI_of, bV_of, rI, rV, rL, rP, rT, rZ_of, rC_of, if_pos, if_neg, if_true, if_false]
end FIND
