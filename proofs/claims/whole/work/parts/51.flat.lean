/-! FLAT, both sides -/
noncomputable def ftA (n : Int) (s : Int → Int) (k : Int) : Int := rsF s (qD n s k + 1) (qP n s k).toNat
noncomputable def ftE (n : Int) (s : Int → Int) (k : Int) : Int := reF s (qD n s k + 1) (n - 1 - qP n s k).toNat (qP n s k)
noncomputable def ftStep (n : Int) (s : Int → Int) (t : Int → Int) (k : Int) : Int → Int := if qH n s k ≤ qD n s k then t else fun q => if ftA n s k ≤ q ∧ q ≤ ftE n s k then min (t q) (qD n s k) else t q
noncomputable def ftS (n : Int) (s : Int → Int) (z : Int) : Int → Int := fld (ftStep n s) ((pkC n s).toNat - (pkK n s z).toNat) (pkK n s z) s
theorem rsF_ge {s : Int → Int} {h : Int} : ∀ (d : Nat) (q : Int), rsF s h d ≤ q → q < d → h ≤ s q
  | 0, q, a, b => by have a : (0 : Int) ≤ q := a; omega
  | d + 1, q, a, b => by
    rw [rsF] at a
    by_cases g : s d < h
    · rw [if_pos g] at a; omega
    · rw [if_neg g] at a
      by_cases e : q = d
      · rw [e]; omega
      · exact rsF_ge d q a (by omega)
theorem reF_ge {s : Int → Int} {h : Int} : ∀ (d : Nat) (x q : Int), x < q → q ≤ reF s h d x → h ≤ s q
  | 0, x, q, a, b => by have b : q ≤ x := b; omega
  | d + 1, x, q, a, b => by
    rw [reF] at b
    by_cases g : s (x + 1) < h
    · rw [if_pos g] at b; omega
    · rw [if_neg g] at b
      by_cases e : q = x + 1
      · rw [e]; omega
      · exact reF_ge d (x + 1) q (by omega) b
theorem ft_ends {n : Int} {s : Int → Int} (h0 : 1 ≤ n) (hn : n ≤ 48) (hb : CvB n s) {k : Int} (h1 : 0 ≤ k) (h2 : k < pkC n s) : (0 ≤ ftA n s k ∧ ftA n s k ≤ qP n s k) ∧ (qP n s k ≤ ftE n s k ∧ ftE n s k < n) := by
  have q := (q_in h0 hn hb h1 h2).1
  have r1 := rsF_in (s := s) (h := qD n s k + 1) (qP n s k).toNat
  have r2 := reF_in (s := s) (h := qD n s k + 1) (n - 1 - qP n s k).toNat (qP n s k)
  unfold ftA ftE; omega
/-- above the death all along, if the peak itself is; else the peak alone -/
theorem ft_above {n : Int} {s : Int → Int} (h0 : 1 ≤ n) (hn : n ≤ 48) (hb : CvB n s) {k : Int} (h1 : 0 ≤ k) (h2 : k < pkC n s) : (qD n s k < qH n s k → ∀ q, ftA n s k ≤ q → q ≤ ftE n s k → qD n s k < s q) ∧ (qH n s k ≤ qD n s k → ∀ q, ftA n s k ≤ q → q ≤ ftE n s k → s q ≤ qD n s k) := by
  have qq := q_in h0 hn hb h1 h2
  have f := pk_facts h0 hn hb
  have w := (pkW_ok h0 hn hb).range f.1.1 k h1 h2
  have g := f.2.1 _ w.1 w.2
  have e := qq.2.2.2.2.2.2
  refine ⟨fun a q b c => ?_, fun a q b c => ?_⟩
  · rcases Int.lt_trichotomy q (qP n s k) with x | x | x
    · have := rsF_ge (s := s) (h := qD n s k + 1) (qP n s k).toNat q b (by omega); omega
    · rw [x, ← e]; exact a
    · have := reF_ge (s := s) (h := qD n s k + 1) (n - 1 - qP n s k).toNat (qP n s k) q x c; omega
  · have g1 : 0 ≤ qP n s k - 1 → s (qP n s k - 1) ≤ s (qP n s k) := g.2.2.2.1
    have g2 : qP n s k + 1 < n → s (qP n s k + 1) ≤ s (qP n s k) := g.2.2.2.2
    rcases Int.lt_trichotomy q (qP n s k) with x | x | x
    · exfalso
      have := ft_ends h0 hn hb h1 h2
      have := rsF_ge (s := s) (h := qD n s k + 1) (qP n s k).toNat (qP n s k - 1) (by show ftA n s k ≤ _; omega) (by omega)
      have := g1 (by omega); omega
    · rw [x, ← e]; exact a
    · exfalso
      have := ft_ends h0 hn hb h1 h2
      have := reF_ge (s := s) (h := qD n s k + 1) (n - 1 - qP n s k).toNat (qP n s k) (qP n s k + 1) (by omega) (by show _ ≤ ftE n s k; omega)
      have := g2 (by omega); omega
/-- levels lie between 0 and the samples -/
def ftI (n : Int) (s t : Int → Int) : Prop := ∀ q, 0 ≤ q → q < n → 0 ≤ t q ∧ t q ≤ s q
theorem ftI_step {n : Int} {s t : Int → Int} (h0 : 1 ≤ n) (hn : n ≤ 48) (hb : CvB n s) {k : Int} (h1 : 0 ≤ k) (h2 : k < pkC n s) (h : ftI n s t) : ftI n s (ftStep n s t k) := fun q a b => by
  have hq := h q a b
  have qq := q_in h0 hn hb h1 h2
  unfold ftStep
  by_cases g : qH n s k ≤ qD n s k
  · rw [if_pos g]; exact hq
  · rw [if_neg g]
    show 0 ≤ (if ftA n s k ≤ q ∧ q ≤ ftE n s k then min (t q) (qD n s k) else t q) ∧ (if ftA n s k ≤ q ∧ q ≤ ftE n s k then min (t q) (qD n s k) else t q) ≤ s q
    by_cases g2 : ftA n s k ≤ q ∧ q ≤ ftE n s k
    · rw [if_pos g2]; omega
    · rw [if_neg g2]; exact hq
theorem ftI_fld {n : Int} {s : Int → Int} (h0 : 1 ≤ n) (hn : n ≤ 48) (hb : CvB n s) : ∀ (d : Nat) (k : Int) (t : Int → Int), 0 ≤ k → k + d ≤ pkC n s → ftI n s t → ftI n s (fld (ftStep n s) d k t)
  | 0, k, t, _, _, h => h
  | d + 1, k, t, a, b, h => ftI_fld h0 hn hb d (k + 1) _ (by omega) (by omega) (ftI_step h0 hn hb a (by omega) h)
theorem ftS_I {n z : Int} {s : Int → Int} (h0 : 1 ≤ n) (hn : n ≤ 48) (hb : CvB n s) : ftI n s (ftS n s z) := by
  have kk := pkK_in (z := z) h0 hn hb
  exact ftI_fld h0 hn hb _ _ _ (by omega) (by omega) (fun q a b => ⟨(hb q a b).1, Int.le_refl _⟩)
theorem ftI_b {n : Int} {s t : Int → Int} (hb : CvB n s) (h : ftI n s t) : CvB n t := fun q a b => by have := h q a b; have := hb q a b; omega
theorem ftS_b {n z : Int} {s : Int → Int} (h0 : 1 ≤ n) (hn : n ≤ 48) (hb : CvB n s) : CvB n (ftS n s z) := ftI_b hb (ftS_I h0 hn hb)
section FLATC
variable {S : S2} {c0 c : Nat} {n z : Int} {s : Int → Int}
abbrev row13 (c0 : Nat) : Nat → Prop := fun j => j = c0 + 13
theorem flatC_in {t : Int → Int} {a e to i : Int} (hn : n ≤ 48) (he : e < n) (ha : 0 ≤ a) (hto : 0 ≤ to ∧ to ≤ 999) (ht : ∀ q, 0 ≤ q → q < n → 0 ≤ t q ∧ t q ≤ 999) : ∀ (d N : Nat) (j : Int) (S : S2), a ≤ j → j + d = e + 1 → d < N → (∀ q, 0 ≤ q → q < n → S.1 (c0 + 13) q = if a ≤ q ∧ q < j then min (t q) to else t q) → ∃ S', (∀ K, f_X5_flatLevels_72 c0 c K N i to e j S = K i S') ∧ (∀ q, 0 ≤ q → q < n → S'.1 (c0 + 13) q = if a ≤ q ∧ q ≤ e then min (t q) to else t q) ∧ Fr (row13 c0) S S' := by
  intro d
  induction d with
  | zero =>
    intro N j S h1 h2 hN h
    obtain ⟨N, rfl⟩ : ∃ M, N = M + 1 := ⟨N - 1, by omega⟩
    refine ⟨S, fun K => ?_, fun q x y => by rw [h q x y]; by_cases g : a ≤ q ∧ q ≤ e; rw [if_pos g, if_pos (by omega)]; rw [if_neg g, if_neg (by omega)], Fr.refl⟩
    rw [f_X5_flatLevels_72]
    simp (disch := omega) only [gI, uI, cI_of, aI_of, sI_of, mnI_of, mxI_of, abI_of, dvI_of, rmI_of, bI_of, bV_of, rI, rV, rL, rP, rT, rZ_of, rC_of, if_pos, if_neg, if_true, if_false]
  | succ d ih =>
    intro N j S h1 h2 hN h
    obtain ⟨N, rfl⟩ : ∃ M, N = M + 1 := ⟨N - 1, by omega⟩
    have e1 := h j (by omega) (by omega)
    rw [if_neg (by omega)] at e1
    have bt := ht j (by omega) (by omega)
    obtain ⟨S', f1, f2, f3⟩ := ih N (j + 1) (pI S (c0 + 13) j (min (t j) to)) (by omega) (by omega) (by omega) (fun q x y => by
      by_cases g : q = j
      · rw [g, pI_eq, if_pos (by omega)]
      · rw [pI_idx g, h q x y]
        by_cases g2 : a ≤ q ∧ q < j
        · rw [if_pos g2, if_pos (by omega)]
        · rw [if_neg g2, if_neg (by omega)])
    refine ⟨S', fun K => ?_, f2, (Fr.refl.pI (A := row13 c0) rfl).trans f3 (fun _ h => h) (fun _ h => h)⟩
    rw [← f1 K, f_X5_flatLevels_72]
    simp (disch := omega) only [e1, gI, uI, cI_of, aI_of, sI_of, mnI_of, mxI_of, abI_of, dvI_of, rmI_of, bI_of, bV_of, rI, rV, rL, rP, rT, rZ_of, rC_of, if_pos, if_neg, if_true, if_false]
theorem flatC_out (hoff : Off c0 c) (hc : CvC S c n s z) (h : CP S c0 n s z) (h0 : 1 ≤ n) (hn : n ≤ 48) (hb : CvB n s) : ∀ (d N : Nat) (k : Int) (t : Int → Int) (S' : S2), 0 ≤ k → k + d = pkC n s → d + 100 < N → Fr (row13 c0) S S' → ftI n s t → (∀ q, 0 ≤ q → q < n → S'.1 (c0 + 13) q = t q) → ∃ S'', f_X5_flatLevels_20 c0 c (f_X5_flatLevels_109 c0 c N) N k S' = some S'' ∧ (∀ q, 0 ≤ q → q < n → S''.1 (c0 + 13) q = fld (ftStep n s) d k t q) ∧ Fr (row13 c0) S S'' := by
  have pf := (pk_facts h0 hn hb).1
  suffices H : ∀ (d N : Nat) (k : Int) (t : Int → Int) (S' : S2), 0 ≤ k → k + d = pkC n s → d + 100 < N → Fr (row13 c0) S S' → ftI n s t → (∀ q, 0 ≤ q → q < n → S'.1 (c0 + 13) q = t q) → ∃ S'', (∀ K, f_X5_flatLevels_20 c0 c K N k S' = K S'') ∧ (∀ q, 0 ≤ q → q < n → S''.1 (c0 + 13) q = fld (ftStep n s) d k t q) ∧ Fr (row13 c0) S S'' from fun d N k t S' a1 a2 a3 a4 a5 a6 => by
    obtain ⟨S'', f1, f2, f3⟩ := H d N k t S' a1 a2 a3 a4 a5 a6
    exact ⟨S'', by rw [f1]; rfl, f2, f3⟩
  intro d
  induction d with
  | zero =>
    intro N k t S' hk0 hk hN fr hI hr
    obtain ⟨N, rfl⟩ : ∃ M, N = M + 1 := ⟨N - 1, by omega⟩
    have h' := h.kept fr (fun j x y z => by have z : j = c0 + 13 := z; omega)
    have e0 := h'.1
    refine ⟨S', fun K => ?_, hr, fr⟩
    rw [f_X5_flatLevels_20]
    simp (disch := omega) only [e0, gI, uI, cI_of, aI_of, sI_of, mnI_of, mxI_of, abI_of, dvI_of, rmI_of, bI_of, bV_of, rI, rV, rL, rP, rT, rZ_of, rC_of, if_pos, if_neg, if_true, if_false]
  | succ d ih =>
    intro N k t S' hk0 hk hN fr hI hr
    obtain ⟨N, rfl⟩ : ∃ M, N = M + 1 := ⟨N - 1, by omega⟩
    have h' := h.kept fr (fun j x y z => by have z : j = c0 + 13 := z; omega)
    have hc' := hc.kept fr (by unfold Off at hoff; show ¬ c = c0 + 13; omega) (by unfold Off at hoff; show ¬ c + 1 = c0 + 13; omega)
    have e0 := h'.1
    have ic : k < pkC n s := by omega
    have q := q_in h0 hn hb hk0 ic
    have ep : f_X5_placeOf N S' c0 k = some (qP n s k, S') := placeC_of N h' h0 hn hb hk0 ic
    have eh : f_X5_heightOf N S' c0 k = some (qH n s k, S') := heightC_of N h' h0 hn hb hk0 ic
    have ed : f_X5_deathOf N S' c0 k = some (qD n s k, S') := deathC_of N h' h0 hn hb hk0 ic
    have hI2 := ftI_step h0 hn hb hk0 ic hI
    have en := ft_ends h0 hn hb hk0 ic
    by_cases g : qH n s k ≤ qD n s k
    · have st : ftStep n s t k = t := by unfold ftStep; rw [if_pos g]
      obtain ⟨S'', f1, f2, f3⟩ := ih N (k + 1) t S' (by omega) (by omega) (by omega) fr hI hr
      refine ⟨S'', fun K => ?_, by rw [fld, st]; exact f2, f3⟩
      rw [← f1 K, f_X5_flatLevels_20]
      simp (disch := omega) only [e0, ep, eh, ed, f_X5_flatLevels_103, gI, uI, cI_of, aI_of, sI_of, mnI_of, mxI_of, abI_of, dvI_of, rmI_of, bI_of, bV_of, rI, rV, rL, rP, rT, rZ_of, rC_of, if_pos, if_neg, if_true, if_false]
    · have st : ftStep n s t k = fun q => if ftA n s k ≤ q ∧ q ≤ ftE n s k then min (t q) (qD n s k) else t q := by unfold ftStep; rw [if_neg g]
      obtain ⟨S1, g1, g2, g3⟩ := flatC_in (c0 := c0) (c := c) (t := t) (a := ftA n s k) (e := ftE n s k) (to := qD n s k) (i := k) hn en.2.2 en.1.1 q.2.2.2.1 (fun j x y => by have := hI j x y; have := hb j x y; omega) (ftE n s k + 1 - ftA n s k).toNat N (ftA n s k) S' (by omega) (by omega) (by omega) (fun j x y => by rw [if_neg (by omega)]; exact hr j x y)
      obtain ⟨S'', f1, f2, f3⟩ := ih N (k + 1) (ftStep n s t k) S1 (by omega) (by omega) (by omega) (fr.trans g3 (fun _ h => h) (fun _ h => h)) hI2 (by rw [st]; exact g2)
      refine ⟨S'', fun K => ?_, f2, f3⟩
      rw [← f1 K, f_X5_flatLevels_20]
      simp (disch := omega) only [e0, ep, eh, ed, gI, uI, cI_of, aI_of, sI_of, mnI_of, mxI_of, abI_of, dvI_of, rmI_of, bI_of, bV_of, rI, rV, rL, rP, rT, rZ_of, rC_of, if_pos, if_neg, if_true, if_false]
      rw [runEnd_of N hc' hb hn (by omega) (by omega) (by omega) (by omega) (by omega), bI_of, runStart_of N hc' hb hn (by omega) (by omega) (by omega) (by omega) (by omega), bI_of]
      show f_X5_flatLevels_72 c0 c (f_X5_flatLevels_103 c0 c (f_X5_flatLevels_20 c0 c K N) N) N k (qD n s k) (ftE n s k) (ftA n s k) S' = _
      rw [g1]
      rfl
theorem flatC_lay {t : Int → Int} (hoff : Off c0 c) (hb : CvB n s) (hn : n ≤ 48) (hI : ftI n s t) : ∀ (d N : Nat) (i r : Int) (S : S2), 0 ≤ i → i + d = n → d < N → CvC S c n (fun j => if j < i then t j else s j) z → (∀ q, 0 ≤ q → q < n → S.1 (c0 + 13) q = t q) → ∃ S', f_X0_flatten_11 c c0 N r i S = some (cntF (fun i => t i < s i) d i r, S') ∧ CvC S' c n t z ∧ Fr (rowOf c) S S' := by
  intro d
  induction d with
  | zero =>
    intro N i r S h0 hi hN hc hr
    obtain ⟨N, rfl⟩ : ∃ M, N = M + 1 := ⟨N - 1, by omega⟩
    have hcn := hc.1
    refine ⟨S, ?_, hc.congr (fun j a b => if_pos (by omega)), Fr.refl⟩
    rw [f_X0_flatten_11]
    simp (disch := omega) only [gI, uI, cI_of, aI_of, sI_of, mnI_of, mxI_of, abI_of, dvI_of, rmI_of, bI_of, bV_of, rI, rV, rL, rP, rT, rZ_of, rC_of, if_pos, if_neg, if_true, if_false]
    rfl
  | succ d ih =>
    intro N i r S h0 hi hN hc hr
    obtain ⟨N, rfl⟩ : ∃ M, N = M + 1 := ⟨N - 1, by omega⟩
    have hcn := hc.1
    have e := hc.2.2 i h0 (by omega)
    dsimp only at e
    rw [if_neg (by omega)] at e
    have er := hr i h0 (by omega)
    have hq := hI i h0 (by omega)
    have bq := hb i h0 (by omega)
    show ∃ S', _ = some (cntF (fun i => t i < s i) d (i + 1) (if t i < s i then r + 1 else r), S') ∧ _
    by_cases g : t i < s i
    · rw [if_pos g]
      have fr : Fr (rowOf c) S (pI S (c + 1) i (t i)) := Fr.refl.pI rfl
      obtain ⟨S', f1, f2, f3⟩ := ih N (i + 1) (r + 1) (pI S (c + 1) i (t i)) (by omega) (by omega) (by omega) (lay_next hc) (fun q a b => by rw [fr.at (by unfold Off at hoff; show ¬ c0 + 13 = c + 1; omega)]; exact hr q a b)
      refine ⟨S', ?_, f2, fr.trans f3 (fun _ h => h) (fun _ h => h)⟩
      rw [← f1, f_X0_flatten_11]
      simp (disch := omega) only [hcn, e, er, f_X0_flatten_48, gI, uI, cI_of, aI_of, sI_of, mnI_of, mxI_of, abI_of, dvI_of, rmI_of, bI_of, bV_of, rI, rV, rL, rP, rT, rZ_of, rC_of, if_pos, if_neg, if_true, if_false]
    · rw [if_neg g]
      obtain ⟨S', f1, f2, f3⟩ := ih N (i + 1) r S (by omega) (by omega) (by omega) (hc.congr (fun j a b => by
        by_cases x : j < i
        · rw [if_pos x, if_pos (by omega)]
        · rw [if_neg x]
          by_cases y : j = i
          · rw [if_pos (by omega), y]; omega
          · rw [if_neg (by omega)])) hr
      refine ⟨S', ?_, f2, f3⟩
      rw [← f1, f_X0_flatten_11]
      simp (disch := omega) only [hcn, e, er, f_X0_flatten_48, gI, uI, cI_of, aI_of, sI_of, mnI_of, mxI_of, abI_of, dvI_of, rmI_of, bI_of, bV_of, rI, rV, rL, rP, rT, rZ_of, rC_of, if_pos, if_neg, if_true, if_false]
abbrev flatA (c0 c : Nat) : Nat → Prop := fun j => j = c0 + 13 ∨ j = c + 1
theorem flattenC_of (N : Nat) (hoff : Off c0 c) (hc : CvC S c n s z) (h : CP S c0 n s z) (h0 : 1 ≤ n) (hn : n ≤ 48) (hb : CvB n s) (hN : 300 ≤ N) : ∃ S', f_X0_flatten N S c c0 = some (cntF (fun i => ftS n s z i < s i) n.toNat 0 0, S') ∧ CvC S' c n (ftS n s z) z ∧ Fr (flatA c0 c) S S' := by
  have pf := (pk_facts h0 hn hb).1
  have kk := pkK_in (z := z) h0 hn hb
  obtain ⟨S1, hS1⟩ : ∃ S1, S1 = pC S (c + 1) (c0 + 13) 0 0 48 := ⟨_, rfl⟩
  have fr1 : Fr (row13 c0) S S1 := by rw [hS1]; exact Fr.refl.pC rfl
  have hne : c + 1 ≠ c0 + 13 := by unfold Off at hoff; omega
  have r1 : ∀ q, 0 ≤ q → q < n → S1.1 (c0 + 13) q = s q := fun q a b => by
    rw [hS1, pC_in (by omega) (by omega), show 0 + (q - 0) = q by omega]; exact hc.2.2 q a b
  have e1 : S1.1 c0 1 = pkK n s z := by rw [fr1.at (by show ¬ c0 = c0 + 13; omega)]; exact h.2.1
  obtain ⟨S2, a1, a2, a3⟩ := flatC_out hoff hc h h0 hn hb ((pkC n s).toNat - (pkK n s z).toNat) N (pkK n s z) s S1 (by omega) (by omega) (by omega) fr1 (fun q a b => ⟨(hb q a b).1, Int.le_refl _⟩) r1
  have hc2 := hc.kept a3 (by unfold Off at hoff; show ¬ c = c0 + 13; omega) (by show ¬ c + 1 = c0 + 13; omega)
  obtain ⟨S', b1, b2, b3⟩ := flatC_lay (z := z) hoff hb hn (ftS_I (z := z) h0 hn hb) n.toNat N 0 0 S2 (by omega) (by omega) (by omega) (hc2.congr (fun j a b => by rw [if_neg (by omega)])) a2
  refine ⟨S', ?_, b2, a3.trans b3 (fun _ h => Or.inl h) (fun _ h => Or.inr h)⟩
  unfold f_X0_flatten f_X5_flatLevels
  rw [cpI_of (by omega) (by omega) (by omega) (by omega) (by omega), ← hS1]
  simp (disch := omega) only [e1, gI, uI, cI_of, aI_of, sI_of, mnI_of, mxI_of, abI_of, dvI_of, rmI_of, bI_of, bV_of, rI, rV, rL, rP, rT, rZ_of, rC_of, if_pos, if_neg, if_true, if_false]
  rw [a1]
  simp (disch := omega) only [gI, uI, cI_of, aI_of, sI_of, mnI_of, mxI_of, abI_of, dvI_of, rmI_of, bI_of, bV_of, rI, rV, rL, rP, rT, rZ_of, rC_of, if_pos, if_neg, if_true, if_false]
  exact b1
end FLATC
section FLATM
variable {S : S2} {n z nl r : Int} {s pl : Int → Int}
theorem flatM_from {k D : Int} (hn : n ≤ 48) (hb : CvB n s) (hD : 0 ≤ D ∧ D ≤ 999) (hw : WasM S n s) : ∀ (d N : Nat) (x y : Int), x = d → x ≤ n → d < N → ∀ K, f_X11_flattens_45 K N k D x y S = K k D (rsF s (D + 1) d) y S := by
  intro d
  induction d with
  | zero =>
    intro N x y hx h2 hN K
    obtain ⟨N, rfl⟩ : ∃ M, N = M + 1 := ⟨N - 1, by omega⟩
    have hx : x = 0 := hx
    subst hx
    rw [f_X11_flattens_45]
    simp (disch := omega) only [gI, uI, cI_of, aI_of, sI_of, mnI_of, mxI_of, abI_of, dvI_of, rmI_of, bI_of, bV_of, rI, rV, rL, rP, rT, rZ_of, rC_of, if_pos, if_neg, if_true, if_false]
    rfl
  | succ d ih =>
    intro N x y hx h2 hN K
    obtain ⟨N, rfl⟩ : ∃ M, N = M + 1 := ⟨N - 1, by omega⟩
    have ed : x - 1 = (d : Int) := by omega
    have e := hw (x - 1) (by omega) (by omega)
    have b := hb (x - 1) (by omega) (by omega)
    rw [rsF, ← ed]
    by_cases g : s (x - 1) ≤ D
    · rw [if_pos (by omega), show x - 1 + 1 = x by omega, f_X11_flattens_45]
      simp (disch := omega) only [e, gI, uI, cI_of, aI_of, sI_of, mnI_of, mxI_of, abI_of, dvI_of, rmI_of, bI_of, bV_of, rI, rV, rL, rP, rT, rZ_of, rC_of, if_pos, if_neg, if_true, if_false]
    · rw [if_neg (by omega), ← ih N (x - 1) y ed (by omega) (by omega) K, f_X11_flattens_45]
      simp (disch := omega) only [e, gI, uI, cI_of, aI_of, sI_of, mnI_of, mxI_of, abI_of, dvI_of, rmI_of, bI_of, bV_of, rI, rV, rL, rP, rT, rZ_of, rC_of, if_pos, if_neg, if_true, if_false]
      rfl
theorem flatM_to {k D : Int} (hn : n ≤ 48) (hb : CvB n s) (hD : 0 ≤ D ∧ D ≤ 999) (hw : WasM S n s) {t : Int → Int} (hc : CvM S 8 n t z) : ∀ (d N : Nat) (x y : Int), 0 ≤ x → x + d = n - 1 → d < N → ∀ K, f_X11_flattens_69 K N k D y x S = K k D y (reF s (D + 1) d x) S := by
  intro d
  induction d with
  | zero =>
    intro N x y h0 h2 hN K
    obtain ⟨N, rfl⟩ : ∃ M, N = M + 1 := ⟨N - 1, by omega⟩
    rw [f_X11_flattens_69]
    simp (disch := omega) only [many_of N hc, gI, uI, cI_of, aI_of, sI_of, mnI_of, mxI_of, abI_of, dvI_of, rmI_of, bI_of, bV_of, rI, rV, rL, rP, rT, rZ_of, rC_of, if_pos, if_neg, if_true, if_false]
    rfl
  | succ d ih =>
    intro N x y h0 h2 hN K
    obtain ⟨N, rfl⟩ : ∃ M, N = M + 1 := ⟨N - 1, by omega⟩
    have e := hw (x + 1) (by omega) (by omega)
    have b := hb (x + 1) (by omega) (by omega)
    rw [reF]
    by_cases g : s (x + 1) ≤ D
    · rw [if_pos (by omega), f_X11_flattens_69]
      simp (disch := omega) only [many_of N hc, e, gI, uI, cI_of, aI_of, sI_of, mnI_of, mxI_of, abI_of, dvI_of, rmI_of, bI_of, bV_of, rI, rV, rL, rP, rT, rZ_of, rC_of, if_pos, if_neg, if_true, if_false]
    · rw [if_neg (by omega), ← ih N (x + 1) y (by omega) (by omega) (by omega) K, f_X11_flattens_69]
      simp (disch := omega) only [many_of N hc, e, gI, uI, cI_of, aI_of, sI_of, mnI_of, mxI_of, abI_of, dvI_of, rmI_of, bI_of, bV_of, rI, rV, rL, rP, rT, rZ_of, rC_of, if_pos, if_neg, if_true, if_false]
theorem flatM_in {k D a e : Int} (hn : n ≤ 48) (hb : CvB n s) (hD : 0 ≤ D ∧ D ≤ 999) (ha : 0 ≤ a) (he : e < n) {t : Int → Int} (ht : ∀ q, 0 ≤ q → q < n → 0 ≤ t q ∧ t q ≤ 999) : ∀ (d N : Nat) (j : Int) (S : S2), a ≤ j → j + d = e + 1 → d < N → WasM S n s → CvM S 8 n (fun q => if a ≤ q ∧ q < j then (if s q ≤ D then t q else min (t q) D) else t q) z → ∃ S', (∀ K, f_X11_flattens_103 K N k D e j S = K k S') ∧ CvM S' 8 n (fun q => if a ≤ q ∧ q ≤ e then (if s q ≤ D then t q else min (t q) D) else t q) z ∧ FrL is8 S S' := by
  intro d
  induction d with
  | zero =>
    intro N j S h1 h2 hN hw hc
    obtain ⟨N, rfl⟩ : ∃ M, N = M + 1 := ⟨N - 1, by omega⟩
    refine ⟨S, fun K => ?_, hc.congr (fun q x y => by by_cases g : a ≤ q ∧ q ≤ e; rw [if_pos g, if_pos (by omega)]; rw [if_neg g, if_neg (by omega)]), FrL.refl⟩
    rw [f_X11_flattens_103]
    simp (disch := omega) only [gI, uI, cI_of, aI_of, sI_of, mnI_of, mxI_of, abI_of, dvI_of, rmI_of, bI_of, bV_of, rI, rV, rL, rP, rT, rZ_of, rC_of, if_pos, if_neg, if_true, if_false]
  | succ d ih =>
    intro N j S h1 h2 hN hw hc
    obtain ⟨N, rfl⟩ : ∃ M, N = M + 1 := ⟨N - 1, by omega⟩
    have ew := hw j (by omega) (by omega)
    have e1 := hc.2.2 j (by omega) (by omega)
    dsimp only at e1
    rw [if_neg (by omega)] at e1
    have bt := ht j (by omega) (by omega)
    have bs := hb j (by omega) (by omega)
    have step : ∀ v, v = (if s j ≤ D then t j else min (t j) D) → ∃ S', (∀ K, f_X11_flattens_103 K N k D e (j + 1) (pI S 8 j v) = K k S') ∧ CvM S' 8 n (fun q => if a ≤ q ∧ q ≤ e then (if s q ≤ D then t q else min (t q) D) else t q) z ∧ FrL is8 S S' := fun v hv => by
      have fr : FrL is8 S (pI S 8 j v) := FrL.refl.pI rfl (by omega)
      obtain ⟨S', f1, f2, f3⟩ := ih N (j + 1) (pI S 8 j v) (by omega) (by omega) (by omega) (hw.kept fr.1 (by decide)) ((hc.put v (by omega)).congr (fun q x y => by
        by_cases g : q = j
        · rw [if_pos g, if_pos (by omega), hv, g]
        · rw [if_neg g]
          by_cases g2 : a ≤ q ∧ q < j
          · rw [if_pos g2, if_pos (show a ≤ q ∧ q < j + 1 by omega)]
          · rw [if_neg g2, if_neg (show ¬ (a ≤ q ∧ q < j + 1) by omega)]))
      exact ⟨S', f1, f2, fr.trans f3 (fun _ h => h) (fun _ h => h)⟩
    by_cases g : s j ≤ D
    · obtain ⟨S', f1, f2⟩ := step (t j) (by rw [if_pos g])
      refine ⟨S', fun K => ?_, f2⟩
      rw [← f1 K, f_X11_flattens_103]
      simp (disch := omega) only [ew, e1, f_X11_flattens_148, gI, uI, cI_of, aI_of, sI_of, mnI_of, mxI_of, abI_of, dvI_of, rmI_of, bI_of, bV_of, rI, rV, rL, rP, rT, rZ_of, rC_of, if_pos, if_neg, if_true, if_false]
    · obtain ⟨S', f1, f2⟩ := step (min (t j) D) (by rw [if_neg g])
      refine ⟨S', fun K => ?_, f2⟩
      rw [← f1 K, f_X11_flattens_103]
      simp (disch := omega) only [ew, e1, f_X11_flattens_148, gI, uI, cI_of, aI_of, sI_of, mnI_of, mxI_of, abI_of, dvI_of, rmI_of, bI_of, bV_of, rI, rV, rL, rP, rT, rZ_of, rC_of, if_pos, if_neg, if_true, if_false]
theorem flatM_out (h0 : 1 ≤ n) (hn : n ≤ 48) (hb : CvB n s) : ∀ (d N : Nat) (k : Int) (t : Int → Int) (S : S2), 0 ≤ k → k + d = pkC n s → d + 100 < N → MPk S n s z → WasM S n s → CvM S 8 n t z → ftI n s t → ∃ S', (∀ K, f_X11_flattens_13 K N k S = K S') ∧ CvM S' 8 n (fld (ftStep n s) d k t) z ∧ FrL is8 S S' := by
  have f := pk_facts h0 hn hb
  intro d
  induction d with
  | zero =>
    intro N k t S hk0 hk hN hM hw hc hI
    obtain ⟨N, rfl⟩ : ∃ M, N = M + 1 := ⟨N - 1, by omega⟩
    have e0 := hM.1.1
    refine ⟨S, fun K => ?_, hc, FrL.refl⟩
    rw [f_X11_flattens_13]
    simp (disch := omega) only [e0, gI, uI, cI_of, aI_of, sI_of, mnI_of, mxI_of, abI_of, dvI_of, rmI_of, bI_of, bV_of, rI, rV, rL, rP, rT, rZ_of, rC_of, if_pos, if_neg, if_true, if_false]
  | succ d ih =>
    intro N k t S hk0 hk hN hM hw hc hI
    obtain ⟨N, rfl⟩ : ∃ M, N = M + 1 := ⟨N - 1, by omega⟩
    have e0 := hM.1.1
    have ic : k < pkC n s := by omega
    have w := (pkW_ok h0 hn hb).range f.1.1 k hk0 ic
    have q := q_in h0 hn hb hk0 ic
    have ep := placeM_of N hM h0 hn hb hk0 ic
    have e18 := (hM.2.1 k hk0 ic).1
    have e15 : S.1 15 (pkW n s k) = qD n s k := (hM.1.2 _ w.1 w.2).2.2.2
    have en := ft_ends h0 hn hb hk0 ic
    have ab := ft_above h0 hn hb hk0 ic
    have hI2 := ftI_step h0 hn hb hk0 ic hI
    obtain ⟨S1, g1, g2, g3⟩ := flatM_in (k := k) (z := z) (s := s) hn hb q.2.2.2.1 en.1.1 en.2.2 (t := t) (fun j x y => by have := hI j x y; have := hb j x y; omega) (ftE n s k + 1 - ftA n s k).toNat N (ftA n s k) S (by omega) (by omega) (by omega) hw (hc.congr (fun j x y => by rw [if_neg (by omega)]))
    have hc1 : CvM S1 8 n (ftStep n s t k) z := g2.congr (fun j x y => by
      unfold ftStep
      by_cases g : qH n s k ≤ qD n s k
      · rw [if_pos g]
        by_cases g4 : ftA n s k ≤ j ∧ j ≤ ftE n s k
        · rw [if_pos g4, if_pos (ab.2 g j g4.1 g4.2)]
        · rw [if_neg g4]
      · rw [if_neg g]
        by_cases g4 : ftA n s k ≤ j ∧ j ≤ ftE n s k
        · have := ab.1 (by omega) j g4.1 g4.2
          rw [if_pos g4, if_neg (by omega), if_pos g4]
        · rw [if_neg g4, if_neg g4])
    have frm : FrM is8 noF S S1 := FrM.of g3.1 (by decide)
    obtain ⟨S', f1, f2, f3⟩ := ih N (k + 1) (ftStep n s t k) S1 (by omega) (by omega) (by omega) (hM.kept frm (by decide) (by decide) (by decide) (by decide) (by decide) (by decide) (fun h => h) (fun h => h)) (hw.kept g3.1 (by decide)) hc1 hI2
    refine ⟨S', fun K => ?_, f2, g3.trans f3 (fun _ h => h) (fun _ h => h)⟩
    rw [← f1 K, f_X11_flattens_13]
    simp (disch := omega) only [e0, e18, e15, ep, gI, uI, cI_of, aI_of, sI_of, mnI_of, mxI_of, abI_of, dvI_of, rmI_of, bI_of, bV_of, rI, rV, rL, rP, rT, rZ_of, rC_of, if_pos, if_neg, if_true, if_false]
    rw [flatM_from hn hb q.2.2.2.1 hw (qP n s k).toNat N (qP n s k) (qP n s k) (by omega) (by omega) (by omega)]
    rw [flatM_to hn hb q.2.2.2.1 hw hc (n - 1 - qP n s k).toNat N (qP n s k) _ (by omega) (by omega) (by omega), f_X11_flattens_99]
    show f_X11_flattens_103 (f_X11_flattens_155 (f_X11_flattens_13 K N) N) N k (qD n s k) (ftE n s k) (ftA n s k) S = _
    rw [g1]
    rfl
/-- finds leaves the log as it is, and lines -/
theorem FrM.log {A : Nat → Prop} {F : Int → Prop} {S S' : S2} (h : FrM A F S S') (h8 : ¬ A 8) : S'.1 8 = S.1 8 := h.2.1 8 (by decide) h8
abbrev flatMA : Nat → Prop := fun j => j = 8 ∨ (13 ≤ j ∧ j ≤ 22)
theorem flattensM_of (N : Nat) (hc : CvM S 8 n s z) (hb : CvB n s) (h0 : 1 ≤ n) (hn : n ≤ 48) (hz : 0 ≤ z) (hz2 : z ≤ 999) (hB : LnB nl r pl) (hL : LnM S nl r pl) (hN : 600 ≤ N) : ∃ S', f_X11_flattens N S = some (cntF (fun i => ftS n s z i < s i) n.toNat 0 0, S') ∧ CvM S' 8 n (ftS n s z) z ∧ FrM flatMA findsF S S' ∧ (∀ k, 50 ≤ k → S'.1 8 k = S.1 8 k) := by
  have pf := (pk_facts h0 hn hb).1
  have kk := pkK_in (z := z) h0 hn hb
  obtain ⟨S1, a1, a2, a3, a4⟩ := findsM_of N hc hb h0 hn hz hz2 hB hL (by omega)
  have hc1 := hc.keptM a4 (by decide) (by decide)
  obtain ⟨S2, b1, b2, b3, b4⟩ := keepWas_of N hc1 hn (by omega)
  have frb : FrM is22 noF S1 S2 := FrM.of b4 (by decide)
  have hM2 := a2.kept frb (by decide) (by decide) (by decide) (by decide) (by decide) (by decide) (fun h => h) (fun h => h)
  have e38 : S2.1 0 38 = pkK n s z := hM2.2.2
  obtain ⟨S', c1, c2, c3⟩ := flatM_out h0 hn hb ((pkC n s).toNat - (pkK n s z).toNat) N (pkK n s z) s S2 (by omega) (by omega) (by omega) hM2 b2 b3 (fun q a b => ⟨(hb q a b).1, Int.le_refl _⟩)
  have frc : FrM is8 noF S2 S' := FrM.of c3.1 (by decide)
  refine ⟨S', ?_, c2, ((a4.trans frb (fun j h => Or.inr (by have h : 13 ≤ j ∧ j ≤ 21 := h; omega)) (fun j h => Or.inr (by have h : j = 22 := h; omega)) (fun _ h => h) (fun _ h => h.elim) (C := flatMA) (K := findsF))).trans frc (fun _ h => h) (fun j h => Or.inl h) (fun _ h => h) (fun _ h => h.elim), fun k hk => by rw [c3.2 k hk, b4.at (by decide), a4.2.1 8 (by decide) (by decide)]⟩
  unfold f_X11_flattens
  rw [a1, bV_of, b1, bV_of]
  simp (disch := omega) only [e38, gI, uI, cI_of, aI_of, sI_of, mnI_of, mxI_of, abI_of, dvI_of, rmI_of, bI_of, bV_of, rI, rV, rL, rP, rT, rZ_of, rC_of, if_pos, if_neg, if_true, if_false]
  rw [c1, f_X11_flattens_161, fell_of N c2 (b2.kept c3.1 (by decide)) hb (ftS_b h0 hn hb) (by omega) hn (by omega)]
  rfl
end FLATM
