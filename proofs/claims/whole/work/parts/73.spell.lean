/-! spell -/
section SPELL
variable {S Sc Sm : S2} {n z nl r B L : Int} {s pl f : Int → Int}
def SpC (S : S2) (L : Int) (f : Int → Int) : Prop := S.1 80 1 = L ∧ ∀ i, 0 ≤ i → i < L → S.1 81 i = f i
def SpM (S : S2) (L : Int) (f : Int → Int) : Prop := S.1 0 51 = L ∧ ∀ i, 0 ≤ i → i < L → S.1 27 i = f i
abbrev spA : Nat → Prop := fun j => j = 80 ∨ j = 81
abbrev is27 : Nat → Prop := fun j => j = 27
abbrev f51 : Int → Prop := fun k => k = 51
theorem addSpC (N : Nat) (h : SpC S L f) (h0 : 0 ≤ L) (hL : L < 13) (c : Int) : ∃ S', f_X8_add N S 80 c = some S' ∧ SpC S' (L + 1) (upI f L c) ∧ Fr spA S S' := by
  have e := h.1
  refine ⟨pI (pI S 81 L c) 80 1 (L + 1), ?_, ⟨pI_eq, fun i a b => ?_⟩, (Fr.refl.pI (A := spA) (Or.inr rfl)).pI (Or.inl rfl)⟩
  · unfold f_X8_add
    simp (disch := omega) only [e, pI_cell, gI, uI, cI_of, aI_of, sI_of, mnI_of, mxI_of, abI_of, dvI_of, rmI_of, bI_of, bV_of, rI, rV, rL, rP, rT, rZ_of, rC_of, if_pos, if_neg, if_true, if_false]
  · rw [pI_cell (by decide)]
    by_cases g : i = L
    · rw [g, pI_eq, upI_eq]
    · rw [pI_idx g, upI_ne g]; exact h.2 i a (by omega)
theorem addSpM (N : Nat) (h : SpM S L f) (h0 : 0 ≤ L) (hL : L < 40) (c : Int) : ∃ S', f_X11_spells N S c = some S' ∧ SpM S' (L + 1) (upI f L c) ∧ FrM is27 f51 S S' := by
  have e := h.1
  refine ⟨pI (pI S 27 L c) 0 51 (L + 1), ?_, ⟨pI_eq, fun i a b => ?_⟩, (FrM.wI (i := 27) (A := is27) FrM.refl rfl (by decide)).wF rfl⟩
  · unfold f_X11_spells
    simp (disch := omega) only [e, pI_cell, gI, uI, cI_of, aI_of, sI_of, mnI_of, mxI_of, abI_of, dvI_of, rmI_of, bI_of, bV_of, rI, rV, rL, rP, rT, rZ_of, rC_of, if_pos, if_neg, if_true, if_false]
  · rw [pI_cell (by decide)]
    by_cases g : i = L
    · rw [g, pI_eq, upI_eq]
    · rw [pI_idx g, upI_ne g]; exact h.2 i a (by omega)
/-- d letters g behind f -/
def apU (f : Int → Int) (L : Int) (g : Int → Int) : Nat → Int → Int
  | 0 => f
  | d + 1 => upI (apU f L g d) (L + d) (g d)
def nuL (v : Int) : Int := if v < 10 then 1 else if v < 100 then 2 else 3
def nuU (f : Int → Int) (L v : Int) : Int → Int := if v < 10 then upI f L (48 + v % 10) else if v < 100 then upI (upI f L (48 + v / 10 % 10)) (L + 1) (48 + v % 10) else upI (upI (upI f L (48 + v / 100 % 10)) (L + 1) (48 + v / 10 % 10)) (L + 1 + 1) (48 + v % 10)
theorem numC_of (N : Nat) (h : SpC S L f) (h0 : 0 ≤ L) {v : Int} (hv : 0 ≤ v ∧ v ≤ 999) (hL : L + nuL v ≤ 13) : ∃ S', f_X8_addNumber N S 80 v = some S' ∧ SpC S' (L + nuL v) (nuU f L v) ∧ Fr spA S S' := by
  unfold nuL at hL ⊢
  unfold nuU
  by_cases g1 : v < 10
  · rw [if_pos g1] at hL ⊢
    rw [if_pos g1]
    obtain ⟨S1, a1, a2, a3⟩ := addSpC N h h0 (by omega) (48 + v % 10)
    refine ⟨S1, ?_, a2, a3⟩
    unfold f_X8_addNumber
    simp (disch := omega) only [f_X8_addNumber_20, f_X8_addNumber_40, a1, gI, uI, cI_of, aI_of, sI_of, mnI_of, mxI_of, abI_of, dvI_of, rmI_of, bI_of, bV_of, rI, rV, rL, rP, rT, rZ_of, rC_of, if_pos, if_neg, if_true, if_false]
  · rw [if_neg g1] at hL ⊢
    rw [if_neg g1]
    by_cases g2 : v < 100
    · rw [if_pos g2] at hL ⊢
      rw [if_pos g2]
      obtain ⟨S1, a1, a2, a3⟩ := addSpC N h h0 (by omega) (48 + v / 10 % 10)
      obtain ⟨S2, b1, b2, b3⟩ := addSpC N a2 (by omega) (by omega) (48 + v % 10)
      rw [show L + 1 + 1 = L + 2 by omega] at b2
      refine ⟨S2, ?_, b2, a3.trans b3 (fun _ h => h) (fun _ h => h)⟩
      unfold f_X8_addNumber
      simp (disch := omega) only [f_X8_addNumber_20, f_X8_addNumber_40, a1, b1, gI, uI, cI_of, aI_of, sI_of, mnI_of, mxI_of, abI_of, dvI_of, rmI_of, bI_of, bV_of, rI, rV, rL, rP, rT, rZ_of, rC_of, if_pos, if_neg, if_true, if_false]
    · rw [if_neg g2] at hL ⊢
      rw [if_neg g2]
      obtain ⟨S1, a1, a2, a3⟩ := addSpC N h h0 (by omega) (48 + v / 100 % 10)
      obtain ⟨S2, b1, b2, b3⟩ := addSpC N a2 (by omega) (by omega) (48 + v / 10 % 10)
      obtain ⟨S3, c1, c2, c3⟩ := addSpC N b2 (by omega) (by omega) (48 + v % 10)
      rw [show L + 1 + 1 + 1 = L + 3 by omega] at c2
      refine ⟨S3, ?_, c2, (a3.trans b3 (fun _ h => h) (fun _ h => h) (C := spA)).trans c3 (fun _ h => h) (fun _ h => h)⟩
      unfold f_X8_addNumber
      simp (disch := omega) only [f_X8_addNumber_20, f_X8_addNumber_40, a1, b1, c1, gI, uI, cI_of, aI_of, sI_of, mnI_of, mxI_of, abI_of, dvI_of, rmI_of, bI_of, bV_of, rI, rV, rL, rP, rT, rZ_of, rC_of, if_pos, if_neg, if_true, if_false]
theorem numM_of (N : Nat) (h : SpM S L f) (h0 : 0 ≤ L) {v : Int} (hv : 0 ≤ v ∧ v ≤ 999) (hL : L + nuL v ≤ 13) (hN : 10 ≤ N) : ∃ S', f_X11_spellsNumber N S v = some S' ∧ SpM S' (L + nuL v) (nuU f L v) ∧ FrM is27 f51 S S' := by
  obtain ⟨N, rfl⟩ : ∃ M, N = M + 1 + 1 + 1 + 1 := ⟨N - 4, by omega⟩
  unfold nuL at hL ⊢
  unfold nuU f_X11_spellsNumber
  by_cases g1 : v < 10
  · rw [if_pos g1] at hL ⊢
    rw [if_pos g1]
    obtain ⟨S1, a1, a2, a3⟩ := addSpM (N + 1 + 1 + 1) h h0 (by omega) (48 + v % 10)
    refine ⟨S1, ?_, a2, a3⟩
    rw [f_X11_spellsNumber_2]
    simp (disch := omega) only [dvI_of, cI_of, if_pos]
    rw [f_X11_spellsNumber_18]
    simp (disch := omega) only [dvI_of, rmI_of, cI_of, if_neg, Int.ediv_one, a1, bV_of]
    rw [show (1 : Int) / 10 = 0 by decide, f_X11_spellsNumber_18]
    simp (disch := omega) only [gI, uI, cI_of, aI_of, sI_of, mnI_of, mxI_of, abI_of, dvI_of, rmI_of, bI_of, bV_of, rI, rV, rL, rP, rT, rZ_of, rC_of, if_pos, if_neg, if_true, if_false]
  · rw [if_neg g1] at hL ⊢
    rw [if_neg g1]
    by_cases g2 : v < 100
    · rw [if_pos g2] at hL ⊢
      rw [if_pos g2]
      obtain ⟨S1, a1, a2, a3⟩ := addSpM (N + 1 + 1 + 1) h h0 (by omega) (48 + v / 10 % 10)
      obtain ⟨S2, b1, b2, b3⟩ := addSpM (N + 1 + 1) a2 (by omega) (by omega) (48 + v % 10)
      rw [show L + 1 + 1 = L + 2 by omega] at b2
      refine ⟨S2, ?_, b2, a3.trans b3 (fun _ h => h) (fun _ h => h) (fun _ h => h) (fun _ h => h)⟩
      rw [f_X11_spellsNumber_2]
      simp (disch := omega) only [dvI_of, cI_of, if_neg]
      rw [show (1 : Int) * 10 = 10 by decide, f_X11_spellsNumber_2]
      simp (disch := omega) only [dvI_of, cI_of, if_pos]
      rw [f_X11_spellsNumber_18]
      simp (disch := omega) only [dvI_of, rmI_of, cI_of, if_neg, a1, bV_of]
      rw [show (10 : Int) / 10 = 1 by decide, f_X11_spellsNumber_18]
      simp (disch := omega) only [dvI_of, rmI_of, cI_of, if_neg, Int.ediv_one, b1, bV_of]
      rw [show (1 : Int) / 10 = 0 by decide, f_X11_spellsNumber_18]
      simp (disch := omega) only [gI, uI, cI_of, aI_of, sI_of, mnI_of, mxI_of, abI_of, dvI_of, rmI_of, bI_of, bV_of, rI, rV, rL, rP, rT, rZ_of, rC_of, if_pos, if_neg, if_true, if_false]
    · rw [if_neg g2] at hL ⊢
      rw [if_neg g2]
      obtain ⟨S1, a1, a2, a3⟩ := addSpM (N + 1 + 1 + 1) h h0 (by omega) (48 + v / 100 % 10)
      obtain ⟨S2, b1, b2, b3⟩ := addSpM (N + 1 + 1) a2 (by omega) (by omega) (48 + v / 10 % 10)
      obtain ⟨S3, c1, c2, c3⟩ := addSpM (N + 1) b2 (by omega) (by omega) (48 + v % 10)
      rw [show L + 1 + 1 + 1 = L + 3 by omega] at c2
      refine ⟨S3, ?_, c2, (a3.trans b3 (fun _ h => h) (fun _ h => h) (fun _ h => h) (fun _ h => h) (C := is27) (K := f51)).trans c3 (fun _ h => h) (fun _ h => h) (fun _ h => h) (fun _ h => h)⟩
      rw [f_X11_spellsNumber_2]
      simp (disch := omega) only [dvI_of, cI_of, if_neg]
      rw [show (1 : Int) * 10 = 10 by decide, f_X11_spellsNumber_2]
      simp (disch := omega) only [dvI_of, cI_of, if_neg]
      rw [show (10 : Int) * 10 = 100 by decide, f_X11_spellsNumber_2]
      simp (disch := omega) only [dvI_of, cI_of, if_pos]
      rw [f_X11_spellsNumber_18]
      simp (disch := omega) only [dvI_of, rmI_of, cI_of, if_neg, a1, bV_of]
      rw [show (100 : Int) / 10 = 10 by decide, f_X11_spellsNumber_18]
      simp (disch := omega) only [dvI_of, rmI_of, cI_of, if_neg, b1, bV_of]
      rw [show (10 : Int) / 10 = 1 by decide, f_X11_spellsNumber_18]
      simp (disch := omega) only [dvI_of, rmI_of, cI_of, if_neg, Int.ediv_one, c1, bV_of]
      rw [show (1 : Int) / 10 = 0 by decide, f_X11_spellsNumber_18]
      simp (disch := omega) only [gI, uI, cI_of, aI_of, sI_of, mnI_of, mxI_of, abI_of, dvI_of, rmI_of, bI_of, bV_of, rI, rV, rL, rP, rT, rZ_of, rC_of, if_pos, if_neg, if_true, if_false]
theorem nameC_loop {l len : Int} {g : Int → Int} (hl : 0 ≤ l ∧ l < 8) (hlen : 1 ≤ len ∧ len ≤ 6) (h0 : 0 ≤ L) (hL : L + len ≤ 13) (hg : ∀ j, 0 ≤ j → j < len → 97 ≤ g j ∧ g j ≤ 122) : ∀ (d N j : Nat) (S : S2), (j : Int) + d = len → d < N → S.1 22 l = len → (∀ i, 0 ≤ i → i < len → S.1 24 (l * 6 + i) = g i) → SpC S (L + j) (apU f L g j) → ∃ S', f_X8_addName_14 80 20 N l j S = some S' ∧ SpC S' (L + len) (apU f L g len.toNat) ∧ Fr spA S S' := by
  intro d
  induction d with
  | zero =>
    intro N j S hj hN e22 e24 h
    obtain ⟨N, rfl⟩ : ∃ M, N = M + 1 := ⟨N - 1, by omega⟩
    refine ⟨S, ?_, by rw [show len.toNat = j by omega, show L + len = L + j by omega]; exact h, Fr.refl⟩
    rw [f_X8_addName_14]
    simp (disch := omega) only [e22, gI, uI, cI_of, aI_of, sI_of, mnI_of, mxI_of, abI_of, dvI_of, rmI_of, bI_of, bV_of, rI, rV, rL, rP, rT, rZ_of, rC_of, if_pos, if_neg, if_true, if_false]
  | succ d ih =>
    intro N j S hj hN e22 e24 h
    obtain ⟨N, rfl⟩ : ∃ M, N = M + 1 := ⟨N - 1, by omega⟩
    have eg := e24 j (by omega) (by omega)
    have bg := hg j (by omega) (by omega)
    obtain ⟨S1, a1, a2, a3⟩ := addSpC N h (by omega) (by omega) (g j)
    obtain ⟨S', b1, b2, b3⟩ := ih N (j + 1) S1 (by omega) (by omega) (by rw [a3.at (by decide)]; exact e22) (fun i x y => by rw [a3.at (by decide)]; exact e24 i x y) (by rw [show L + ((j + 1 : Nat) : Int) = L + j + 1 by omega]; exact a2)
    refine ⟨S', ?_, b2, a3.trans b3 (fun _ h => h) (fun _ h => h)⟩
    rw [← b1, f_X8_addName_14]
    unfold f_X3_letter
    simp (disch := omega) only [e22, eg, a1, gI, uI, cI_of, aI_of, sI_of, mnI_of, mxI_of, abI_of, dvI_of, rmI_of, bI_of, bV_of, rI, rV, rL, rP, rT, rZ_of, rC_of, if_pos, if_neg, if_true, if_false]
    rw [show (j : Int) + 1 = ((j + 1 : Nat) : Int) by omega]
theorem divM_loop {l i : Int} {g : Int → Int} {len : Nat} (hlen : len ≤ 7) (hg : ∀ j : Int, 0 ≤ j → j < len → 97 ≤ g j ∧ g j ≤ 122) : ∀ (d N : Nat) (k : Int), 0 ≤ k → k + d = i → i < len → d < N → ∀ K, f_X11_spellsName_35 K N l i (wdV g (len - k.toNat)) k S = K l i (wdV g (len - i.toNat)) S := by
  intro d
  induction d with
  | zero =>
    intro N k h0 hk hi hN K
    obtain ⟨N, rfl⟩ : ∃ M, N = M + 1 := ⟨N - 1, by omega⟩
    rw [f_X11_spellsName_35, show k = i by omega]
    simp (disch := omega) only [gI, uI, cI_of, aI_of, sI_of, mnI_of, mxI_of, abI_of, dvI_of, rmI_of, bI_of, bV_of, rI, rV, rL, rP, rT, rZ_of, rC_of, if_pos, if_neg, if_true, if_false]
  | succ d ih =>
    intro N k h0 hk hi hN K
    obtain ⟨N, rfl⟩ : ∃ M, N = M + 1 := ⟨N - 1, by omega⟩
    have e := wdV_div (f := g) (d := len - k.toNat - 1) (by omega) (fun j a b => hg j a (by omega))
    rw [show len - k.toNat - 1 + 1 = len - k.toNat by omega] at e
    have h2 := ih N (k + 1) (by omega) (by omega) hi (by omega) K
    rw [show (k + 1).toNat = k.toNat + 1 by omega, show len - (k.toNat + 1) = len - k.toNat - 1 by omega] at h2
    rw [← h2, f_X11_spellsName_35]
    unfold nzL
    rw [cI_of (by omega) (by omega) (by omega) (by omega), if_neg (by omega), if_neg (by decide), e]
theorem nameM_loop {l : Int} {g : Int → Int} {len : Nat} (hl : 0 ≤ l ∧ l < 8) (hlen : 1 ≤ len ∧ len ≤ 6) (h0 : 0 ≤ L) (hL : L + len ≤ 13) (hg : ∀ j : Int, 0 ≤ j → j < len → 97 ≤ g j ∧ g j ≤ 122) : ∀ (d N j : Nat) (S : S2), j + d = len → d + 20 < N → S.2 12 l = wdV g len → SpM S (L + j) (apU f L g j) → ∃ S', f_X11_spellsName_21 N l ((d : Int) - 1) S = some S' ∧ SpM S' (L + len) (apU f L g len) ∧ FrM is27 f51 S S' := by
  intro d
  induction d with
  | zero =>
    intro N j S hj hN e12 h
    obtain ⟨N, rfl⟩ : ∃ M, N = M + 1 := ⟨N - 1, by omega⟩
    refine ⟨S, ?_, by rw [show len = j by omega]; exact h, FrM.refl⟩
    rw [f_X11_spellsName_21]
    simp (disch := omega) only [gI, uI, cI_of, aI_of, sI_of, mnI_of, mxI_of, abI_of, dvI_of, rmI_of, bI_of, bV_of, rI, rV, rL, rP, rT, rZ_of, rC_of, if_pos, if_neg, if_true, if_false]
  | succ d ih =>
    intro N j S hj hN e12 h
    obtain ⟨N, rfl⟩ : ∃ M, N = M + 1 := ⟨N - 1, by omega⟩
    have eg := wdV_last (f := g) (d := j) (by omega) (fun i a b => hg i a (by omega))
    obtain ⟨S1, a1, a2, a3⟩ := addSpM N h (by omega) (by omega) (g j)
    obtain ⟨S', b1, b2, b3⟩ := ih N (j + 1) S1 (by omega) (by omega) (by rw [a3.1]; exact e12) (by rw [show L + ((j + 1 : Nat) : Int) = L + j + 1 by omega]; exact a2)
    refine ⟨S', ?_, b2, a3.trans b3 (fun _ h => h) (fun _ h => h) (fun _ h => h) (fun _ h => h)⟩
    have dv := divM_loop (S := S) (l := l) (i := (d : Int)) (len := len) (by omega) hg d N 0 (by omega) (by omega) (by omega) (by omega) (f_X11_spellsName_53 (f_X11_spellsName_21 N) N)
    rw [show len - (0 : Int).toNat = len by rfl, show len - (d : Int).toNat = j + 1 by omega] at dv
    rw [f_X11_spellsName_21, show (((d + 1 : Nat) : Int) - 1) = (d : Int) by omega, cI_of (by omega) (by omega) (by omega) (by omega), if_neg (by omega), aL_of hl.1 hl.2, e12, dv, f_X11_spellsName_53]
    unfold nzL
    rw [if_neg (by decide), eg, a1, bV_of, show (d : Int) + (-1) = (d : Int) - 1 by omega]
    exact b1
theorem spell_both (N M : Nat) (hN : 2000 ≤ N) (hM : 2000 ≤ M) (hB : B ≤ 50000) (H : RelB B Sc Sm) {a1 a2 : Int} (h1 : inR a1) (h2 : inR a2) : ∃ (v : Int) (Sc' Sm' : S2), f_X10_spell N Sc a1 a2 = some (v, Sc') ∧ f_X11_spell M Sm a1 a2 = some (v, Sm') ∧ RelB (B + 40) Sc' Sm' := by
  obtain ⟨-, -, -, ⟨n, z, s, cur, -⟩, ⟨nl, r, pl, ln⟩, -⟩ := id H
  have ha1 := h2.1
  have ha2 := h2.2
  have ek := isKeptC_of N cur h1.1 h1.2
  by_cases g0 : n = 0
  · rw [if_neg (by omega)] at ek
    refine ⟨-1, Sc, Sm, ?_, ?_, H.up (by omega)⟩
    · unfold f_X10_spell
      rw [ek, bI_of, cI_of (by decide) (by decide) (by decide) (by decide), if_pos rfl]; rfl
    · unfold f_X11_spell
      rw [isPeak_0 M cur g0, bI_of, cI_of (by decide) (by decide) (by decide) (by decide), if_pos rfl]; rfl
  · have n1 : 1 ≤ n := by have := cur.1; omega
    obtain ⟨M1, e1, e2, e3, e4, e5, e6⟩ := isPeak_y M cur n1 ln (by omega) h1.1 h1.2
    obtain ⟨⟨n0, n48⟩, hb, hz, hc, hm, hi, hP, -⟩ := id cur
    have hP := hP n1
    have kk := pkK_in (z := z) n1 n48 hb
    have p1 := (pk_facts n1 n48 hb).1
    have km := isKept_of M e2 n1 n48 hb h1.1 h1.2
    by_cases g1 : 0 ≤ a1 ∧ a1 < pkK n s z
    · rw [if_pos ⟨n1, g1⟩] at ek
      rw [if_pos ⟨g1.1, by omega⟩] at e1
      rw [if_pos g1] at km
      have ic : a1 < pkC n s := by omega
      obtain ⟨hLB, hLC, -, hNm⟩ := id ln
      -- the reference spells
      have fr0 : FrM is27 f51 M1 (pI M1 0 51 0) := FrM.refl.wF rfl
      have s0 : SpM (pI M1 0 51 0) 0 (fun _ => 0) := ⟨pI_eq, fun i x y => by omega⟩
      obtain ⟨l, hl⟩ : ∃ l, l = lnQ n s z nl pl r 0 a1 := ⟨_, rfl⟩
      have lin : l = -1 ∨ (0 ≤ l ∧ l < nl) := by
        rw [hl]
        show lnF nl pl r (qP n s) (pkK n s z) 0 a1 = -1 ∨ (0 ≤ lnF nl pl r (qP n s) (pkK n s z) 0 a1 ∧ lnF nl pl r (qP n s) (pkK n s z) 0 a1 < nl)
        unfold lnF
        rw [if_pos g1.2]
        rcases lnA_in (pl := pl) (t := mtT nl pl r (qP n s) 0 a1.toNat) (p := qP n s a1 + 0) (r := r) hLB.1.1 with q | q
        · exact Or.inl q
        · exact Or.inr ⟨q.1, q.2.1⟩
      have l20 : (pI M1 0 51 0).1 20 a1 = l := by rw [pI_cell (by decide), hl]; exact e3.2.1 a1 g1.1 ic
      have l8 := hLB.1.2
      -- the class's line
      obtain ⟨C1, c1, c2, c3⟩ := matchC_of N hLB n1 n48 hb (by_ := 0) (by omega) hLC hP (by omega)
      have frc0 : Fr spA C1 (pI C1 80 1 0) := Fr.refl.pI (Or.inl rfl)
      have et := takenBy_of (S := pI C1 80 1 0) N hLB n1 n48 hb (z := z) (by rw [pI_cell (by decide), c3.at (by decide)]; exact hLC.1) (fun i x y => by rw [pI_cell (by decide)]; exact c2 i x y) g1.1 ic (by omega)
      rw [← hl] at et
      have t0 : SpC (pI C1 80 1 0) 0 (fun _ => 0) := ⟨pI_eq, fun i x y => by omega⟩
      -- names
      have nm : ∃ (L : Int) (f : Int → Int) (C2 M2 : S2), (1 ≤ L ∧ L ≤ 6) ∧ f_X8_addName N (pI C1 80 1 0) 80 20 l = some C2 ∧ SpC C2 L f ∧ Fr spA (pI C1 80 1 0) C2 ∧ f_X11_spellsName M (pI M1 0 51 0) l = some M2 ∧ SpM M2 L f ∧ FrM is27 f51 (pI M1 0 51 0) M2 := by
        rcases lin with q | q
        · obtain ⟨C2, x1, x2, x3⟩ := addSpC N t0 (by omega) (by omega) 63
          obtain ⟨M2, y1, y2, y3⟩ := addSpM M s0 (by omega) (by omega) 63
          refine ⟨1, _, C2, M2, by omega, ?_, x2, x3, ?_, y2, y3⟩
          · unfold f_X8_addName
            rw [cI_of (by omega) (by omega) (by omega) (by omega), if_pos q, x1]; rfl
          · unfold f_X11_spellsName
            rw [cI_of (by omega) (by omega) (by omega) (by omega), if_pos q, y1]; rfl
        · obtain ⟨w1, w2, w3, w4⟩ := hNm l q.1 q.2
          have c22 : (pI C1 80 1 0).1 22 = Sc.1 22 := by rw [frc0.2 22 (by decide), c3.2 22 (by decide)]
          have c24 : (pI C1 80 1 0).1 24 = Sc.1 24 := by rw [frc0.2 24 (by decide), c3.2 24 (by decide)]
          have m11 : (pI M1 0 51 0).1 11 = Sm.1 11 := by rw [pI_row (by decide)]; exact e6.1 11 (by omega)
          have m12 : (pI M1 0 51 0).2 12 = Sm.2 12 := e6.2.1
          obtain ⟨C2, x1, x2, x3⟩ := nameC_loop (f := fun _ => 0) (L := 0) (l := l) (len := Sc.1 22 l) (g := fun j => Sc.1 24 (6 * l + j)) ⟨q.1, by omega⟩ w2 (by omega) (by omega) w3 (Sc.1 22 l).toNat N 0 (pI C1 80 1 0) (by omega) (by omega) (by rw [c22]) (fun i x y => by rw [c24, show l * 6 + i = 6 * l + i by omega]) (by rw [show (0 : Int) + ((0 : Nat) : Int) = 0 by omega]; exact t0)
          obtain ⟨M2, y1, y2, y3⟩ := nameM_loop (f := fun _ => 0) (L := 0) (l := l) (len := (Sc.1 22 l).toNat) (g := fun j => Sc.1 24 (6 * l + j)) ⟨q.1, by omega⟩ (by omega) (by omega) (by omega) (fun j x y => w3 j x (by omega)) (Sc.1 22 l).toNat M 0 (pI M1 0 51 0) (by omega) (by omega) (by rw [m12]; exact w4) (by rw [show (0 : Int) + ((0 : Nat) : Int) = 0 by omega]; exact s0)
          refine ⟨Sc.1 22 l, apU (fun _ => 0) 0 (fun j => Sc.1 24 (6 * l + j)) (Sc.1 22 l).toNat, C2, M2, w2, ?_, by rw [show Sc.1 22 l = 0 + Sc.1 22 l by omega] ; rw [show (0 + Sc.1 22 l).toNat = (Sc.1 22 l).toNat by omega]; exact x2, x3, ?_, by rw [show Sc.1 22 l = 0 + (((Sc.1 22 l).toNat : Nat) : Int) by omega]; rw [show (0 + (((Sc.1 22 l).toNat : Nat) : Int)).toNat = (Sc.1 22 l).toNat by omega]; exact y2, y3⟩
          · unfold f_X8_addName
            rw [cI_of (by omega) (by omega) (by omega) (by omega), if_neg (by omega)]; exact x1
          · have e11 : (pI M1 0 51 0).1 11 l = Sc.1 22 l := by rw [m11]; exact w1
            unfold f_X11_spellsName
            rw [cI_of (by omega) (by omega) (by omega) (by omega), if_neg (by omega), aI_of q.1 (by omega), e11]
            rw [show (((Sc.1 22 l).toNat : Nat) : Int) - 1 = Sc.1 22 l - 1 by omega] at y1
            exact y1
      obtain ⟨L, f, C2, M2, hL, x1, x2, x3, y1, y2, y3⟩ := nm
      have qq := q_in n1 n48 hb g1.1 ic
      obtain ⟨C3, x4, x5, x6⟩ := addSpC N x2 (by omega) (by omega) 64
      obtain ⟨M3, y4, y5, y6⟩ := addSpM M y2 (by omega) (by omega) 64
      have nu1 : 1 ≤ nuL (qP n s a1) ∧ nuL (qP n s a1) ≤ 2 := by unfold nuL; by_cases w : qP n s a1 < 10; rw [if_pos w]; omega; rw [if_neg w, if_pos (by omega)]; omega
      have nu2 : 1 ≤ nuL (qH n s a1) ∧ nuL (qH n s a1) ≤ 3 := by unfold nuL; split; omega; split <;> omega
      obtain ⟨C4, x7, x8, x9⟩ := numC_of N x5 (by omega) (v := qP n s a1) (by omega) (by omega)
      obtain ⟨M4, y7, y8, y9⟩ := numM_of M y5 (by omega) (v := qP n s a1) (by omega) (by omega) (by omega)
      obtain ⟨C5, u1, u2, u3⟩ := addSpC N x8 (by omega) (by omega) 58
      obtain ⟨M5, v1, v2, v3⟩ := addSpM M y8 (by omega) (by omega) 58
      obtain ⟨C6, u4, u5, u6⟩ := numC_of N u2 (by omega) (v := qH n s a1) (by omega) (by omega)
      obtain ⟨M6, v4, v5, v6⟩ := numM_of M v2 (by omega) (v := qH n s a1) (by omega) (by omega) (by omega)
      obtain ⟨L6, hL6⟩ : ∃ L6, L6 = L + 1 + nuL (qP n s a1) + 1 + nuL (qH n s a1) := ⟨_, rfl⟩
      rw [← hL6] at u5 v5
      obtain ⟨f6, hf6⟩ : ∃ f6, f6 = nuU (upI (nuU (upI f L 64) (L + 1) (qP n s a1)) (L + 1 + nuL (qP n s a1)) 58) (L + 1 + nuL (qP n s a1) + 1) (qH n s a1) := ⟨_, rfl⟩
      rw [← hf6] at u5 v5
      -- what stands all along
      have frc3 : Fr spA C1 C3 := (frc0.trans x3 (fun _ h => h) (fun _ h => h) (C := spA)).trans x6 (fun _ h => h) (fun _ h => h)
      have frc5 : Fr spA C1 C5 := (frc3.trans x9 (fun _ h => h) (fun _ h => h) (C := spA)).trans u3 (fun _ h => h) (fun _ h => h)
      have frc6 : Fr spA C1 C6 := frc5.trans u6 (fun _ h => h) (fun _ h => h)
      have frm3 : FrM is27 f51 M1 M3 := (fr0.trans y3 (fun _ h => h) (fun _ h => h) (fun _ h => h) (fun _ h => h) (C := is27) (K := f51)).trans y6 (fun _ h => h) (fun _ h => h) (fun _ h => h) (fun _ h => h)
      have frm5 : FrM is27 f51 M1 M5 := (frm3.trans y9 (fun _ h => h) (fun _ h => h) (fun _ h => h) (fun _ h => h) (C := is27) (K := f51)).trans v3 (fun _ h => h) (fun _ h => h) (fun _ h => h) (fun _ h => h)
      have frm6 : FrM is27 f51 M1 M6 := frm5.trans v6 (fun _ h => h) (fun _ h => h) (fun _ h => h) (fun _ h => h)
      have hP1 := hP.kept c3 (fun j x y q => by have q : j = 23 := q; omega)
      have hP3 := hP1.kept frc3 (fun j x y q => by have q : j = 80 ∨ j = 81 := q; omega)
      have hP5 := hP1.kept frc5 (fun j x y q => by have q : j = 80 ∨ j = 81 := q; omega)
      have ep : f_X5_placeOf N C3 6 a1 = some (qP n s a1, C3) := placeC_of N hP3 n1 n48 hb g1.1 ic
      have eh : f_X5_heightOf N C5 6 a1 = some (qH n s a1, C5) := heightC_of N hP5 n1 n48 hb g1.1 ic
      have hM3 := e2.kept frm3 (by decide) (by decide) (by decide) (by decide) (by decide) (by decide) (by decide) (by decide)
      have hM5 := e2.kept frm5 (by decide) (by decide) (by decide) (by decide) (by decide) (by decide) (by decide) (by decide)
      have mp := placeM_of M hM3 n1 n48 hb g1.1 ic
      have mh := heightM_of M (e4.keptM frm5 (by decide) (by decide)) hM5 n1 n48 hb g1.1 ic
      have kc : KC Sc C6 := KC.of (c3.trans frc6 (fun j q => by have q : j = 23 := q; omega) (fun j q => by have q : j = 80 ∨ j = 81 := q; omega) (C := fun j => j = 23 ∨ j = 80 ∨ j = 81)) (fun j q => by show j = 1 ∨ j = 19 ∨ j = 23 ∨ (54 ≤ j ∧ j ≤ 73) ∨ (75 ≤ j ∧ j ≤ 81); omega)
      have kmm : KM Sm M6 := e6.trans (KM.of frm6 (fun j q => by have q : j = 27 := q; omega) (fun k q => by have q : k = 51 := q; omega))
      -- the reference's text
      have refM : f_X11_spell M Sm a1 a2 = cI a2 (-1) (if a2 = (-1) then gI M6 0 51 fun v69 => rI v69 M6 else gI M6 0 51 fun v78 => bI (f_X11_in M M6 a2 0 (v78 - 1)) fun v83 S83 => cI v83 0 (if v83 = 0 then rI (-1) S83 else aI S83 27 40 a2 fun v94 => rI v94 S83)) := by
        unfold f_X11_spell
        rw [e1, bI_of, cI_of (by decide) (by decide) (by decide) (by decide), if_neg (by decide), km, bI_of, cI_of (by decide) (by decide) (by decide) (by decide), if_neg (by decide)]
        unfold uI
        dsimp only
        rw [aI_of g1.1 (by omega), l20, y1, bV_of, y4, bV_of, mp, bI_of, y7, bV_of, v1, bV_of, mh, bI_of, v4, bV_of]
      have e51 := v5.1
      have e80 := u5.1
      by_cases ga : a2 < -1
      · refine ⟨-1, Sc, M6, ?_, ?_, (H.keep KC.refl kmm).up (by omega)⟩
        · unfold f_X10_spell
          rw [ek, bI_of, cI_of (by decide) (by decide) (by decide) (by decide), if_neg (by decide), cI_of (by omega) (by omega) (by omega) (by omega), if_neg (by omega)]; rfl
        · rw [refM, cI_of (by omega) (by omega) (by omega) (by omega), if_neg (by omega)]
          unfold gI
          dsimp only
          rw [e51, in_n M (by omega) (by omega) (by omega) (by omega) (by omega) (by omega) (by omega), bI_of, cI_of (by decide) (by decide) (by decide) (by decide), if_pos rfl]; rfl
      · have clsC : f_X10_spell N Sc a1 a2 = cI a2 (-1) (if a2 = (-1) then gI C6 80 1 fun v112 => rI v112 C6 else gI C6 80 1 fun v121 => cI a2 v121 (if v121 ≤ a2 then rI (-1) C6 else aI C6 (80 + 1) 13 a2 fun v135 => rI v135 C6)) := by
          unfold f_X10_spell
          rw [ek, bI_of, cI_of (by decide) (by decide) (by decide) (by decide), if_neg (by decide), cI_of (by omega) (by omega) (by omega) (by omega), if_pos (by omega), c1, bI_of]
          unfold uI
          dsimp only
          rw [et, bI_of, x1, bV_of, x4, bV_of, ep, bI_of, x7, bV_of, u1, bV_of, eh, bI_of, u4, bV_of]
        by_cases gb : a2 = -1
        · refine ⟨L6, C6, M6, ?_, ?_, (H.keep kc kmm).up (by omega)⟩
          · rw [clsC, cI_of (by omega) (by omega) (by omega) (by omega), if_pos gb]
            unfold gI
            rw [e80]; rfl
          · rw [refM, cI_of (by omega) (by omega) (by omega) (by omega), if_pos gb]
            unfold gI
            rw [e51]; rfl
        · by_cases gc : a2 < L6
          · refine ⟨f6 a2, C6, M6, ?_, ?_, (H.keep kc kmm).up (by omega)⟩
            · rw [clsC, cI_of (by omega) (by omega) (by omega) (by omega), if_neg gb]
              unfold gI
              dsimp only
              rw [e80, cI_of (by omega) (by omega) (by omega) (by omega), if_neg (by omega), aI_of (by omega) (by omega), u5.2 a2 (by omega) gc]; rfl
            · rw [refM, cI_of (by omega) (by omega) (by omega) (by omega), if_neg gb]
              unfold gI
              dsimp only
              rw [e51, in_y M (by omega) (by omega) (by omega) (by omega), bI_of, cI_of (by decide) (by decide) (by decide) (by decide), if_neg (by decide), aI_of (by omega) (by omega), v5.2 a2 (by omega) gc]; rfl
          · refine ⟨-1, C6, M6, ?_, ?_, (H.keep kc kmm).up (by omega)⟩
            · rw [clsC, cI_of (by omega) (by omega) (by omega) (by omega), if_neg gb]
              unfold gI
              dsimp only
              rw [e80, cI_of (by omega) (by omega) (by omega) (by omega), if_pos (by omega)]; rfl
            · rw [refM, cI_of (by omega) (by omega) (by omega) (by omega), if_neg gb]
              unfold gI
              dsimp only
              rw [e51, in_n M (by omega) (by omega) (by omega) (by omega) (by omega) (by omega) (by omega), bI_of, cI_of (by decide) (by decide) (by decide) (by decide), if_pos rfl]; rfl
    · rw [if_neg (fun q => g1 q.2)] at ek
      rw [if_neg g1] at km
      refine ⟨-1, Sc, M1, ?_, ?_, (H.keep KC.refl e6).up (by omega)⟩
      · unfold f_X10_spell
        rw [ek, bI_of, cI_of (by decide) (by decide) (by decide) (by decide), if_pos rfl]; rfl
      · unfold f_X11_spell
        by_cases g3 : 0 ≤ a1 ∧ a1 < pkC n s
        · rw [if_pos g3] at e1
          rw [e1, bI_of, cI_of (by decide) (by decide) (by decide) (by decide), if_neg (by decide), km, bI_of, cI_of (by decide) (by decide) (by decide) (by decide), if_pos rfl]; rfl
        · rw [if_neg g3] at e1
          rw [e1, bI_of, cI_of (by decide) (by decide) (by decide) (by decide), if_pos rfl]; rfl
theorem op_spell (hB : B ≤ 50000) : Op_spell (RelB B) (RelB (B + 40)) := fun Sc Sm H a1 a2 h1 h2 => ⟨2000, 2000, spell_both 2000 2000 (by decide) (by decide) hB H h1 h2⟩
end SPELL
