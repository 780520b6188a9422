/-! texts: the steps of a script on both sides -/
theorem FrR.fr {F : Int → Prop} {A : Nat → Prop} {S S' : S2} (h : FrR F S S') (hA : A 1) : Fr A S S' := ⟨h.1, fun j hj => h.2.1 j (fun q => hj (by rw [q]; exact hA))⟩
theorem wordIx_inj {a b : Int} (ha : 0 ≤ a ∧ a ≤ 9) (hb : 0 ≤ b ∧ b ≤ 9) (h : wordIx a = wordIx b) : a = b := by
  rcases (show a = 0 ∨ a = 1 ∨ a = 2 ∨ a = 3 ∨ a = 4 ∨ a = 5 ∨ a = 6 ∨ a = 7 ∨ a = 8 ∨ a = 9 by omega) with rfl | rfl | rfl | rfl | rfl | rfl | rfl | rfl | rfl | rfl <;> rcases (show b = 0 ∨ b = 1 ∨ b = 2 ∨ b = 3 ∨ b = 4 ∨ b = 5 ∨ b = 6 ∨ b = 7 ∨ b = 8 ∨ b = 9 by omega) with rfl | rfl | rfl | rfl | rfl | rfl | rfl | rfl | rfl | rfl <;> first | rfl | exact absurd h (by decide)
abbrev r6 : Nat → Prop := fun j => j = 6
abbrev sdA : Nat → Prop := fun j => 75 ≤ j ∧ j ≤ 78
abbrev scA : Nat → Prop := fun j => j = 1 ∨ (75 ≤ j ∧ j ≤ 78)
section STEPS
variable {S Sc Sm : S2} {L p f n : Int} {t : Int → Int}
theorem wordOf7 (N : Nat) {a : Int} (h : 0 ≤ a ∧ a ≤ 9) : f_X7_wordOf N S a = some S := by
  unfold f_X7_wordOf
  rw [cI_of (by omega) (by omega) (by omega) (by omega)]; rfl
theorem wordOf11 (N : Nat) {a : Int} (h : 0 ≤ a ∧ a ≤ 9) : f_X11_wordOf N S a = some (cdW (wordIx a), S) := by
  unfold f_X11_wordOf
  rcases (show a = 0 ∨ a = 1 ∨ a = 2 ∨ a = 3 ∨ a = 4 ∨ a = 5 ∨ a = 6 ∨ a = 7 ∨ a = 8 ∨ a = 9 by omega) with rfl | rfl | rfl | rfl | rfl | rfl | rfl | rfl | rfl | rfl <;> rw [cI_of (by decide) (by decide) (by decide) (by decide)]
  · rw [show wordIx 0 = 4 by decide, cdW_4]; rfl
  · rw [show wordIx 1 = 5 by decide, cdW_5]; rfl
  · rw [show wordIx 2 = 6 by decide, cdW_6]; rfl
  · rw [show wordIx 3 = 7 by decide, cdW_7]; rfl
  · rw [show wordIx 4 = 8 by decide, cdW_8]; rfl
  · rw [show wordIx 5 = 9 by decide, cdW_9]; rfl
  · rw [show wordIx 6 = 10 by decide, cdW_10]; rfl
  · rw [show wordIx 7 = 11 by decide, cdW_11]; rfl
  · rw [show wordIx 8 = 1 by decide, cdW_1]; rfl
  · rw [show wordIx 9 = 12 by decide, cdW_12]; rfl
/-- the sort of step told at f; -1 for none -/
def isSo (t : Int → Int) (f n so : Int) : Prop := (so = -1 ∧ ∀ a, 0 ≤ a → a ≤ 9 → ¬ isW t f n (wordIx a)) ∨ ((0 ≤ so ∧ so ≤ 9) ∧ isW t f n (wordIx so))
theorem told_loop (h : RdT S L t) (e4 : S.1 1 4 = f) (e5 : S.1 1 5 = n) (h0 : 0 ≤ f) (hn : 0 ≤ n) (hL : f + n ≤ L) : ∀ (d N : Nat) (x : Int), 0 ≤ x → x + d = 10 → 600 + d ≤ N → (∀ a, 0 ≤ a → a < x → ¬ isW t f n (wordIx a)) → ∃ so, f_X6_sortTold_2 1 N x S = some (so, S) ∧ isSo t f n so := by
  intro d
  induction d with
  | zero =>
    intro N x h0 hx hN hno
    obtain ⟨N, rfl⟩ : ∃ M, N = M + 1 := ⟨N - 1, by omega⟩
    refine ⟨-1, ?_, Or.inl ⟨rfl, fun a b c => hno a b (by omega)⟩⟩
    rw [f_X6_sortTold_2, cI_of (by omega) (by omega) (by omega) (by omega), if_pos (by omega)]; rfl
  | succ d ih =>
    intro N x hx0 hx hN hno
    obtain ⟨N, rfl⟩ : ∃ M, N = M + 1 := ⟨N - 1, by omega⟩
    rw [f_X6_sortTold_2, cI_of (by omega) (by omega) (by omega) (by omega), if_neg (by omega), wordOf7 N (by omega), bV_of]
    rcases isWordC N (wordIx_lt x) h e4 e5 h0 hn hL (by omega) with ⟨g, q⟩ | ⟨g, q⟩
    · refine ⟨x, ?_, Or.inr ⟨by omega, g⟩⟩
      rw [q, bI_of, cI_of (by omega) (by omega) (by omega) (by omega), if_neg (by decide)]; rfl
    · rw [q, bI_of, cI_of (by omega) (by omega) (by omega) (by omega), if_pos rfl]
      exact ih N (x + 1) (by omega) (by omega) (by omega) (fun a b c => by
        by_cases k : a = x
        · rw [k]; exact g
        · exact hno a b (by omega))
theorem toldM_loop {k33 : Int → Int → S2 → Option S2} {so x1 : Int} (tk : TokF S L t f) (hq : ∀ a, 0 ≤ a → a ≤ 9 → ((S.1 0 4 = 1 ∧ S.2 0 9 = cdW (wordIx a)) ↔ a = so)) : ∀ (d N : Nat) (x y : Int), 0 ≤ x → x + d = 10 → d < N → f_X11_readStep_4 k33 N x1 y x S = k33 x1 (if x ≤ so ∧ so ≤ 9 then so else y) S := by
  intro d
  induction d with
  | zero =>
    intro N x y h0 hx hN
    obtain ⟨N, rfl⟩ : ∃ M, N = M + 1 := ⟨N - 1, by omega⟩
    rw [f_X11_readStep_4, cI_of (by omega) (by omega) (by omega) (by omega), if_pos (by omega), if_neg (by omega)]
  | succ d ih =>
    intro N x y h0 hx hN
    obtain ⟨N, rfl⟩ : ∃ M, N = M + 1 := ⟨N - 1, by omega⟩
    rw [f_X11_readStep_4, cI_of (by omega) (by omega) (by omega) (by omega), if_neg (by omega), wordOf11 N (by omega), bI_of]
    rcases isWordM N tk.x rfl (cdW (wordIx x)) with ⟨g, q⟩ | ⟨g, q⟩
    · have e := (hq x h0 (by omega)).mp g
      rw [q, bI_of, cI_of (by omega) (by omega) (by omega) (by omega), if_neg (by decide), if_pos (by omega)]
      unfold f_X11_readStep_26
      rw [ih N (x + 1) x (by omega) (by omega) (by omega), if_neg (by omega), e]
    · have e : ¬ x = so := fun k => g ((hq x h0 (by omega)).mpr k)
      rw [q, bI_of, cI_of (by omega) (by omega) (by omega) (by omega), if_pos rfl]
      unfold f_X11_readStep_26
      rw [ih N (x + 1) y (by omega) (by omega) (by omega)]
      by_cases k : x + 1 ≤ so ∧ so ≤ 9
      · rw [if_pos k, if_pos (by omega)]
      · rw [if_neg k, if_neg (by omega)]
theorem numbersOf11 (N : Nat) {so : Int} (h : 0 ≤ so ∧ so ≤ 9) : f_X11_numbersOf N S so = some (nbF so, S) := by
  unfold f_X11_numbersOf nbF
  rcases (show so = 0 ∨ so = 1 ∨ so = 2 ∨ so = 3 ∨ so = 4 ∨ so = 5 ∨ so = 6 ∨ so = 7 ∨ so = 8 ∨ so = 9 by omega) with rfl | rfl | rfl | rfl | rfl | rfl | rfl | rfl | rfl | rfl
  all_goals
    rw [cI_of (by omega) (by omega) (by omega) (by omega)]
    first
      | rfl
      | (rw [if_pos (by decide), cI_of (by omega) (by omega) (by omega) (by omega)]; first | rfl | (rw [if_neg (by decide), cI_of (by omega) (by omega) (by omega) (by omega)]; first | rfl | (rw [if_neg (by decide), cI_of (by omega) (by omega) (by omega) (by omega)]; rfl)))
/-- a number of -999..999 -/
theorem num9_both (N : Nat) (J : JT Sc Sm L t p) (hN : 500 ≤ N) : ∃ r Sc', f_X6_readNumber N Sc 1 (-999) 999 = some (r, Sc') ∧ FrR kM Sc Sc' ∧ ((r = 1 ∧ ∃ e, (p < e ∧ e ≤ L) ∧ Sc'.1 1 1 = e ∧ Sc'.1 1 3 = Sm.1 0 6 ∧ Sc'.1 1 2 = -1 ∧ Sm.1 0 4 = 2 ∧ Sm.1 0 3 = e ∧ -999 ≤ Sm.1 0 6 ∧ Sm.1 0 6 ≤ 999) ∨ (r = 0 ∧ Sc'.1 1 2 = bk t L p ∧ Sm.1 0 4 ≠ 2)) := by
  obtain ⟨hc, hm, hp, e1, e2, tk, e8⟩ := J
  have b := bk_in (t := t) hp.1 hp.2
  obtain ⟨r, Sc', c1, c2, c3⟩ := readNumberC (lo := -999) (hi := 999) N hc e1 hp.1 hp.2 (by omega) (by omega) hN
  refine ⟨r, Sc', c1, c2, ?_⟩
  rcases Tok_num9 tk with ⟨ok, t4, t6, t3, v⟩ | ⟨ok, t4⟩
  · rcases c3 with ⟨_, rfl, c4, c5, c6⟩ | ⟨k, _⟩
    · have en := nmE_in (t := t) (lo := -999) (L := L) (f := bk t L p) (by omega) ok.1
      exact Or.inl ⟨rfl, nmE t L (-999) (bk t L p), by omega, c4, by rw [c5, t6], by rw [c6]; exact e2, t4, t3, v⟩
    · exact absurd ok k
  · rcases c3 with ⟨k, _⟩ | ⟨_, rfl, c4⟩
    · exact absurd k ok
    · exact Or.inr ⟨rfl, c4, t4⟩
theorem r56_3 {x1 x2 : Int} (N : Nat) : f_X11_readStep_56 (N + 1) x1 x2 3 S = some S := by
  rw [f_X11_readStep_56, cI_of (by omega) (by omega) (by omega) (by omega), if_pos (by omega)]; rfl
theorem r56_skip {x1 so x3 : Int} (N : Nat) (hs : 0 ≤ so ∧ so ≤ 9) (hx : 0 ≤ x1 ∧ x1 ≤ 177) (h3 : 1 ≤ x3 ∧ x3 ≤ 2) (h : nbF so < x3) : f_X11_readStep_56 (N + 1) x1 so x3 S = f_X11_readStep_56 N x1 so (x3 + 1) (pI S 6 (x1 + x3) (-1000000)) := by
  have hn := nbF_in (so := so)
  rw [f_X11_readStep_56, cI_of (by omega) (by omega) (by omega) (by omega), if_neg (by omega), sI_of (by omega) (by omega), numbersOf11 N hs, bI_of, cI_of (by omega) (by omega) (by omega) (by omega), if_pos h]; rfl
theorem r56_bad {x1 so x3 : Int} (N : Nat) (hs : 0 ≤ so ∧ so ≤ 9) (hx : 0 ≤ x1 ∧ x1 ≤ 177) (h3 : 1 ≤ x3 ∧ x3 ≤ 2) (h : ¬ nbF so < x3) (h8 : S.1 0 8 = -1) (tk : TokF S L t f) (h4 : S.1 0 4 ≠ 2) : f_X11_readStep_56 (N + 1) x1 so x3 S = f_X11_readStep_56 N x1 so (x3 + 1) (pI (pI S 6 (x1 + x3) (-1000000)) 0 8 f) := by
  have hn := nbF_in (so := so)
  have x4 := tk.x
  rw [f_X11_readStep_56, cI_of (by omega) (by omega) (by omega) (by omega), if_neg (by omega), sI_of (by omega) (by omega), numbersOf11 N hs, bI_of, cI_of (by omega) (by omega) (by omega) (by omega), if_neg h]
  unfold gI
  dsimp only
  rw [pI_cell (by decide), pI_cell (by decide), h8, cI_of (by omega) (by omega) (by omega) (by omega), if_pos rfl, cI_of (by omega) (by omega) (by omega) (by omega), if_neg h4]
  unfold f_X11_readStep_95
  rw [bad_of N (f := f) (by rw [pI_cell (by decide)]; exact h8) (by rw [pI_cell (by decide)]; exact tk.1)]; rfl
theorem r56_badw {x1 so x3 q : Int} (N : Nat) (hs : 0 ≤ so ∧ so ≤ 9) (hx : 0 ≤ x1 ∧ x1 ≤ 177) (h3 : 1 ≤ x3 ∧ x3 ≤ 2) (h : ¬ nbF so < x3) (hq : 0 ≤ q ∧ q ≤ 400) (h8 : S.1 0 8 = q) : f_X11_readStep_56 (N + 1) x1 so x3 S = f_X11_readStep_56 N x1 so (x3 + 1) (pI (pI S 6 (x1 + x3) (-1000000)) 0 8 q) := by
  have hn := nbF_in (so := so)
  rw [f_X11_readStep_56, cI_of (by omega) (by omega) (by omega) (by omega), if_neg (by omega), sI_of (by omega) (by omega), numbersOf11 N hs, bI_of, cI_of (by omega) (by omega) (by omega) (by omega), if_neg h]
  unfold gI
  dsimp only
  rw [pI_cell (by decide), h8, cI_of (by omega) (by omega) (by omega) (by omega), if_neg (by omega)]
  unfold f_X11_readStep_95
  rw [badw_of N hq (by rw [pI_cell (by decide)]; exact h8)]; rfl
theorem r56_ok {x1 so x3 e : Int} (N : Nat) (hs : 0 ≤ so ∧ so ≤ 9) (hx : 0 ≤ x1 ∧ x1 ≤ 177) (h3 : 1 ≤ x3 ∧ x3 ≤ 2) (h : ¬ nbF so < x3) (hm : RdM S L t) (h8 : S.1 0 8 = -1) (h4 : S.1 0 4 = 2) (he : S.1 0 3 = e) (h0 : 0 ≤ e ∧ e ≤ L) (hN : 500 ≤ N) : ∃ S', f_X11_readStep_56 (N + 1) x1 so x3 S = f_X11_readStep_56 N x1 so (x3 + 1) S' ∧ FrT no0 kB (pI (pI S 6 (x1 + x3) (-1000000)) 6 (x1 + x3) (S.1 0 6)) S' ∧ TokF S' L t (bk t L e) ∧ S'.1 0 8 = -1 := by
  have hn := nbF_in (so := so)
  obtain ⟨S', a, b, c, d⟩ := nextJ (Sm := pI (pI S 6 (x1 + x3) (-1000000)) 6 (x1 + x3) (S.1 0 6)) N (p := e) (hm.r (A := r6) (F := kB) (FrT.wI (i := 6) (A := r6) (FrT.wI (i := 6) (A := r6) FrT.refl rfl (by decide)) rfl (by decide)) (by decide) (by decide)) (by rw [pI_cell (by decide), pI_cell (by decide)]; exact he) h0.1 h0.2 hN
  refine ⟨S', ?_, b, c, by rw [d, pI_cell (by decide), pI_cell (by decide)]; exact h8⟩
  rw [f_X11_readStep_56, cI_of (by omega) (by omega) (by omega) (by omega), if_neg (by omega), sI_of (by omega) (by omega), numbersOf11 N hs, bI_of, cI_of (by omega) (by omega) (by omega) (by omega), if_neg h]
  unfold gI
  dsimp only
  rw [pI_cell (by decide), pI_cell (by decide), pI_cell (by decide), h8, h4, cI_of (by omega) (by omega) (by omega) (by omega), if_pos rfl, cI_of (by omega) (by omega) (by omega) (by omega), if_pos rfl, sI_of (by omega) (by omega), a]; rfl
theorem JT.c {Sc' : S2} (J : JT Sc Sm L t p) (h : ∀ j, (1 ≤ j ∧ j ≤ 3) → Sc'.1 j = Sc.1 j) : JT Sc' Sm L t p := by
  obtain ⟨⟨a1, a2, a3, a4⟩, hm, hp, e1, e2, tk, e8⟩ := J
  exact ⟨⟨a1, by rw [h 2 (by omega)]; exact a2, fun i x y => by rw [h 3 (by omega)]; exact a3 i x y, a4⟩, hm, hp, by rw [h 1 (by omega)]; exact e1, by rw [h 1 (by omega)]; exact e2, tk, e8⟩
theorem JT.m {Sm' : S2} (J : JT Sc Sm L t p) (h0 : Sm'.1 0 = Sm.1 0) (h1 : Sm'.1 1 = Sm.1 1) (h2 : Sm'.2 0 = Sm.2 0) : JT Sc Sm' L t p := by
  obtain ⟨hc, ⟨a1, a2, a3, a4⟩, hp, e1, e2, tk, e8⟩ := J
  refine ⟨hc, ⟨a1, by rw [h0]; exact a2, fun i x y => by rw [h1]; exact a3 i x y, a4⟩, hp, e1, e2, ?_, by rw [h0]; exact e8⟩
  unfold TokF at tk ⊢
  rw [h0, h2]; exact tk
def adS (S : S2) (k so f g : Int) : S2 := pI (pI (pI (pI S 76 k so) 77 k f) 78 k g) 75 0 (k + 1)
theorem adS_fr {k so f g : Int} : Fr sdA S (adS S k so f g) := (((Fr.refl.pI (A := sdA) (by omega)).pI (by omega)).pI (by omega)).pI (by omega)
theorem adS_c {S' : S2} {k so f g : Int} (h : Fr scA S S') : Fr scA S (adS S' k so f g) := h.trans adS_fr (fun _ q => q) (fun _ q => Or.inr q)
theorem add7_of (N : Nat) {k so f g : Int} (h : S.1 75 0 = k) (hk : 0 ≤ k ∧ k < 12) : f_X7_add N S 75 so f g = some (adS S k so f g) := by
  unfold f_X7_add adS
  simp (disch := omega) only [h, pI_cell, gI, uI, cI_of, aI_of, sI_of, mnI_of, mxI_of, abI_of, dvI_of, rmI_of, bI_of, bV_of, rI, rV, rL, rP, rT, rZ_of, rC_of, if_pos, if_neg, if_true, if_false]
theorem s90_of (N : Nat) {k so f g : Int} (h : S.1 75 0 = k) (hk : 0 ≤ k ∧ k < 12) : f_X6_readStep_90 1 75 N so f g S = some (1, adS S k so f g) := by
  unfold f_X6_readStep_90
  rw [add7_of N h hk, bV_of, rZ_of (Or.inr rfl)]
/-- the numbers of a step on both sides -/
theorem args_both {k so x1 : Int} (N M : Nat) (J : JT Sc Sm L t p) (hs : 0 ≤ so ∧ so ≤ 9) (hx : 0 ≤ x1 ∧ x1 ≤ 177) (h75 : Sc.1 75 0 = k) (hk : 0 ≤ k ∧ k < 12) (h6 : Sm.1 6 x1 = so) (hN : 500 ≤ N) (hM : 500 ≤ M) : ∃ r Sc' Sm', (cI (nbF so) 0 (if nbF so ≤ 0 then (f_X6_readStep_64 1 75 N) so (nbF so) 0 0 Sc else bI (f_X6_readNumber N Sc 1 (-999) 999) fun v50 S50 => cI v50 0 (if v50 = 0 then rZ 0 S50 else gI S50 1 3 fun v59 => (f_X6_readStep_64 1 75 N) so (nbF so) v59 0 S50))) = some (r, Sc') ∧ f_X11_readStep_56 (M + 3) x1 so 1 Sm = some Sm' ∧ Fr scA Sc Sc' ∧ FrT r6 kB Sm Sm' ∧ (∀ i, i ≤ x1 → Sm'.1 6 i = Sm.1 6 i) ∧ ((r = 1 ∧ ∃ e f g Sc0, p ≤ e ∧ JT Sc' Sm' L t e ∧ (∀ j, 75 ≤ j → Sc0.1 j = Sc.1 j) ∧ Sc' = adS Sc0 k so f g ∧ StpR so f g (Sm'.1 6 x1) (Sm'.1 6 (x1 + 1)) (Sm'.1 6 (x1 + 2))) ∨ (r = 0 ∧ ∃ q, JF Sc' Sm' L q)) := by
  have hn := nbF_in (so := so)
  have hL := J.1.1
  have hp := J.2.2.1
  have b := bk_in (t := t) J.2.2.1.1 J.2.2.1.2
  have b' : 0 ≤ bk t L p ∧ bk t L p ≤ L := by omega
  have w6 : ∀ {S S' : S2} {k v : Int}, FrT r6 kB S S' → FrT r6 kB S (pI S' 6 k v) := fun h => FrT.wI (i := 6) (A := r6) h rfl (by decide)
  have w8 : ∀ {S S' : S2} {v : Int}, FrT r6 kB S S' → FrT r6 kB S (pI S' 0 8 v) := fun h => h.w (Or.inl (by omega))
  have up : ∀ {S S' S'' : S2}, FrT r6 kB S S' → FrT no0 kB S' S'' → FrT r6 kB S S'' := fun h g => h.trans g (fun _ q => q) (fun _ q => q.elim) (fun _ q => q) (fun _ q => q)
  rw [cI_of (by omega) (by omega) (by omega) (by omega)]
  by_cases g0 : nbF so = 0
  · -- none
    refine ⟨1, adS Sc k so 0 0, pI (pI Sm 6 (x1 + 1) (-1000000)) 6 (x1 + (1 + 1)) (-1000000), ?_, ?_, adS_c Fr.refl, w6 (w6 FrT.refl), fun i hi => by rw [pI_idx (by omega), pI_idx (by omega)], Or.inl ⟨rfl, p, 0, 0, Sc, Int.le_refl p, ?_, fun _ _ => rfl, rfl, ?_⟩⟩
    · rw [if_pos (by omega)]
      unfold f_X6_readStep_64
      rw [cI_of (by omega) (by omega) (by omega) (by omega), if_pos (by omega), s90_of N h75 hk]
    · rw [r56_skip (M + 2) hs hx (by omega) (by omega), r56_skip (M + 1) hs hx (by omega) (by omega)]
      exact r56_3 M
    · exact (J.m (Sm' := pI (pI Sm 6 (x1 + 1) (-1000000)) 6 (x1 + (1 + 1)) (-1000000)) (by rw [pI_row (by decide), pI_row (by decide)]) (by rw [pI_row (by decide), pI_row (by decide)]) rfl).c (fun j hj => adS_fr.2 j (by show ¬ (75 ≤ j ∧ j ≤ 78); omega))
    · refine ⟨by rw [pI_idx (by omega), pI_idx (by omega)]; exact h6, hs, fun q => by omega, fun _ => ⟨rfl, ?_⟩, fun q => by omega, fun _ => ⟨rfl, ?_⟩⟩
      · rw [pI_idx (by omega), pI_eq]
      · rw [show x1 + 2 = x1 + (1 + 1) by omega, pI_eq]
  rw [if_neg (by omega)]
  obtain ⟨r, Sc1, c1, c2, c3⟩ := num9_both N J hN
  have f1 : Fr scA Sc Sc1 := c2.fr (Or.inl rfl)
  rw [c1, bI_of]
  rcases c3 with ⟨rfl, e, he, a1, a3, a2, m4, m3, mv⟩ | ⟨rfl, a2, m4⟩
  · -- the first is good
    rw [cI_of (by omega) (by omega) (by omega) (by omega), if_neg (by decide)]
    obtain ⟨Sm1, d1, d2, d3, d4⟩ := r56_ok (x1 := x1) (so := so) (x3 := 1) (M + 2) hs hx (by omega) (by omega) J.2.1 J.2.2.2.2.2.2 m4 m3 (by omega) (by omega)
    have ff : FrT r6 kB Sm Sm1 := up (w6 (w6 FrT.refl)) d2
    have r6e : Sm1.1 6 = (pI (pI Sm 6 (x1 + 1) (-1000000)) 6 (x1 + 1) (Sm.1 0 6)).1 6 := (d2.1 6 (by decide) (fun q => q)).1
    have J1 : JT Sc1 Sm1 L t e := ⟨J.1.r c2, J.2.1.r ff (by decide) (by decide), by omega, a1, a2, d3, d4⟩
    have e75 : Sc1.1 75 0 = k := by rw [c2.2.1 75 (by decide)]; exact h75
    have c64 : (gI Sc1 1 3 fun v59 => (f_X6_readStep_64 1 75 N) so (nbF so) v59 0 Sc1) = (f_X6_readStep_64 1 75 N) so (nbF so) (Sm.1 0 6) 0 Sc1 := by
      unfold gI
      dsimp only
      rw [a3]
    rw [c64, d1]
    obtain ⟨v, hv⟩ : ∃ v, v = Sm.1 0 6 := ⟨_, rfl⟩
    rw [← hv] at mv r6e ⊢
    unfold f_X6_readStep_64
    rw [cI_of (by omega) (by omega) (by omega) (by omega)]
    by_cases g1 : nbF so = 1
    · -- one
      refine ⟨1, adS Sc1 k so v 0, pI Sm1 6 (x1 + (1 + 1)) (-1000000), ?_, ?_, adS_c f1, w6 ff, fun i hi => by rw [pI_idx (by omega), r6e, pI_idx (by omega), pI_idx (by omega)], Or.inl ⟨rfl, e, v, 0, Sc1, by omega, ?_, fun j hj => c2.2.1 j (by omega), rfl, ?_⟩⟩
      · rw [if_pos (by omega), s90_of N e75 hk]
      · rw [r56_skip (M + 1) hs hx (by omega) (by omega)]
        exact r56_3 M
      · exact (J1.m (Sm' := pI Sm1 6 (x1 + (1 + 1)) (-1000000)) (pI_row (by decide)) (pI_row (by decide)) rfl).c (fun j hj => adS_fr.2 j (by show ¬ (75 ≤ j ∧ j ≤ 78); omega))
      · refine ⟨by rw [pI_idx (by omega), r6e, pI_idx (by omega), pI_idx (by omega)]; exact h6, hs, fun _ => ⟨by rw [pI_idx (by omega), r6e, pI_eq], mv⟩, fun q => by omega, fun q => by omega, fun _ => ⟨rfl, ?_⟩⟩
        rw [show x1 + 2 = x1 + (1 + 1) by omega, pI_eq]
    · -- two
      rw [if_neg (by omega)]
      obtain ⟨r, Sc2, c1', c2', c3'⟩ := num9_both N J1 hN
      have f2 : Fr scA Sc Sc2 := f1.trans (c2'.fr (A := scA) (Or.inl rfl)) (fun _ q => q) (fun _ q => q)
      rw [c1', bI_of]
      rcases c3' with ⟨rfl, e2, he2, a1', a3', a2', m4', m3', mv'⟩ | ⟨rfl, a2', m4'⟩
      · rw [cI_of (by omega) (by omega) (by omega) (by omega), if_neg (by decide)]
        obtain ⟨Sm2, d1', d2', d3', d4'⟩ := r56_ok (x1 := x1) (so := so) (x3 := 1 + 1) (M + 1) hs hx (by omega) (by omega) J1.2.1 d4 m4' m3' (by omega) (by omega)
        have ff2 : FrT r6 kB Sm Sm2 := up (w6 (w6 ff)) d2'
        have r6e' : Sm2.1 6 = (pI (pI Sm1 6 (x1 + (1 + 1)) (-1000000)) 6 (x1 + (1 + 1)) (Sm1.1 0 6)).1 6 := (d2'.1 6 (by decide) (fun q => q)).1
        have J2 : JT Sc2 Sm2 L t e2 := ⟨J1.1.r c2', J.2.1.r ff2 (by decide) (by decide), by omega, a1', a2', d3', d4'⟩
        have e75' : Sc2.1 75 0 = k := by rw [c2'.2.1 75 (by decide)]; exact e75
        obtain ⟨w, hw⟩ : ∃ w, w = Sm1.1 0 6 := ⟨_, rfl⟩
        rw [← hw] at mv' r6e' a3'
        refine ⟨1, adS Sc2 k so v w, Sm2, ?_, ?_, adS_c f2, ff2, fun i hi => by rw [r6e', pI_idx (by omega), pI_idx (by omega), r6e, pI_idx (by omega), pI_idx (by omega)], Or.inl ⟨rfl, e2, v, w, Sc2, by omega, ?_, fun j hj => by rw [c2'.2.1 j (by omega), c2.2.1 j (by omega)], rfl, ?_⟩⟩
        · unfold gI
          dsimp only
          rw [a3', s90_of N e75' hk]
        · rw [d1']
          exact r56_3 M
        · exact J2.c (fun j hj => adS_fr.2 j (by show ¬ (75 ≤ j ∧ j ≤ 78); omega))
        · refine ⟨by rw [r6e', pI_idx (by omega), pI_idx (by omega), r6e, pI_idx (by omega), pI_idx (by omega)]; exact h6, hs, fun _ => ⟨by rw [r6e', pI_idx (by omega), pI_idx (by omega), r6e, pI_eq], mv⟩, fun q => by omega, fun _ => ⟨?_, mv'⟩, fun q => by omega⟩
          rw [r6e', show x1 + 2 = x1 + (1 + 1) by omega, pI_eq]
      · have be := bk_in (t := t) (L := L) (p := e) (by omega) (by omega)
        refine ⟨0, Sc2, pI (pI Sm1 6 (x1 + (1 + 1)) (-1000000)) 0 8 (bk t L e), ?_, ?_, f2, w8 (w6 ff), fun i hi => by rw [pI_cell (by decide), pI_idx (by omega), r6e, pI_idx (by omega), pI_idx (by omega)], Or.inr ⟨rfl, bk t L e, by omega, a2', pI_eq⟩⟩
        · rw [cI_of (by omega) (by omega) (by omega) (by omega), if_pos rfl, rZ_of (Or.inl rfl)]
        · rw [r56_bad (M + 1) hs hx (by omega) (by omega) d4 d3 m4']
          exact r56_3 M
  · -- the first is bad
    rw [cI_of (by omega) (by omega) (by omega) (by omega), if_pos rfl, rZ_of (Or.inl rfl), r56_bad (M + 2) hs hx (by omega) (by omega) J.2.2.2.2.2.2 J.2.2.2.2.2.1 m4]
    by_cases g1 : nbF so = 1
    · refine ⟨0, Sc1, pI (pI (pI Sm 6 (x1 + 1) (-1000000)) 0 8 (bk t L p)) 6 (x1 + (1 + 1)) (-1000000), rfl, ?_, f1, w6 (w8 (w6 FrT.refl)), fun i hi => by rw [pI_idx (by omega), pI_cell (by decide), pI_idx (by omega)], Or.inr ⟨rfl, bk t L p, b', a2, by rw [pI_cell (by decide), pI_eq]⟩⟩
      rw [r56_skip (M + 1) hs hx (by omega) (by omega)]
      exact r56_3 M
    · refine ⟨0, Sc1, pI (pI (pI (pI Sm 6 (x1 + 1) (-1000000)) 0 8 (bk t L p)) 6 (x1 + (1 + 1)) (-1000000)) 0 8 (bk t L p), rfl, ?_, f1, w8 (w6 (w8 (w6 FrT.refl))), fun i hi => by rw [pI_cell (by decide), pI_idx (by omega), pI_cell (by decide), pI_idx (by omega)], Or.inr ⟨rfl, bk t L p, b', a2, pI_eq⟩⟩
      rw [r56_badw (q := bk t L p) (M + 1) hs hx (by omega) (by omega) (by omega) pI_eq]
      exact r56_3 M
/-- a step on both sides -/
theorem stepT_both {k x1 : Int} (N M : Nat) (J : JT Sc Sm L t p) (hx : 0 ≤ x1 ∧ x1 ≤ 177) (h75 : Sc.1 75 0 = k) (hk : 0 ≤ k ∧ k < 12) (hN : 700 ≤ N) (hM : 700 ≤ M) : ∃ r Sc' Sm', f_X6_readStep N Sc 1 75 = some (r, Sc') ∧ f_X11_readStep (M + 3) Sm x1 = some Sm' ∧ Fr scA Sc Sc' ∧ FrT r6 kB Sm Sm' ∧ (∀ i, i < x1 → Sm'.1 6 i = Sm.1 6 i) ∧ ((r = 1 ∧ ∃ e so f g Sc0, p < e ∧ JT Sc' Sm' L t e ∧ (∀ j, 75 ≤ j → Sc0.1 j = Sc.1 j) ∧ Sc' = adS Sc0 k so f g ∧ StpR so f g (Sm'.1 6 x1) (Sm'.1 6 (x1 + 1)) (Sm'.1 6 (x1 + 2))) ∨ (r = 0 ∧ ∃ q, JF Sc' Sm' L q)) := by
  have hL := J.1.1
  have hp := J.2.2.1
  have tk := J.2.2.2.2.2.1
  have b := bk_in (t := t) hp.1 hp.2
  obtain ⟨Sc1, c1, c2, c3, c4, c5, c6⟩ := readWordC N J.1 J.2.2.2.1 hp.1 hp.2 (by omega)
  obtain ⟨f, hf⟩ : ∃ f, f = bk t L p := ⟨_, rfl⟩
  rw [← hf] at c1 c2 c3 c4 c5 tk b
  have w := we_in (t := t) (L := L) (p := f) (by omega) (by omega)
  have f1 : Fr scA Sc Sc1 := c6.fr (Or.inl rfl)
  have w8 : ∀ {S S' : S2} {v : Int}, FrT r6 kB S S' → FrT r6 kB S (pI S' 0 8 v) := fun h => h.w (Or.inl (by omega))
  have m33 : f_X11_readStep_33 (M + 3) x1 (-1) Sm = some (pI Sm 0 8 f) := by
    unfold f_X11_readStep_33
    rw [cI_of (by omega) (by omega) (by omega) (by omega), if_pos rfl, bad_of _ J.2.2.2.2.2.2 tk.1]; rfl
  have mm : ∀ so, (∀ a, 0 ≤ a → a ≤ 9 → ((Sm.1 0 4 = 1 ∧ Sm.2 0 9 = cdW (wordIx a)) ↔ a = so)) → f_X11_readStep (M + 3) Sm x1 = f_X11_readStep_33 (M + 3) x1 (if 0 ≤ so ∧ so ≤ 9 then so else -1) Sm := fun so hq => by
    unfold f_X11_readStep
    exact toldM_loop tk hq 10 (M + 3) 0 (-1) (by omega) (by omega) (by omega)
  unfold f_X6_readStep
  rw [c1, bI_of]
  by_cases g : f < we t L f
  · rw [if_pos g, cI_of (by omega) (by omega) (by omega) (by omega), if_neg (by decide)]
    rw [if_pos g] at c5
    have h1 : RdT Sc1 L t := J.1.r c6
    obtain ⟨so, s1, s2⟩ := told_loop h1 c3 c4 (by omega) (by omega) (by omega) 10 N 0 (by omega) (by omega) (by omega) (fun a x y => by omega)
    have s1 : f_X6_sortTold N Sc1 1 = some (so, Sc1) := s1
    rw [s1, bI_of]
    rcases s2 with ⟨e, hno⟩ | ⟨hso, hw⟩
    · have eM := mm (-1) (fun a x y => ⟨fun q => absurd ((Tok_word tk (wordIx_lt a)).mp q).2 (hno a x y), fun q => by omega⟩)
      rw [if_neg (by omega)] at eM
      refine ⟨0, pI Sc1 1 2 f, pI Sm 0 8 f, ?_, eM.trans m33, f1.pI (Or.inl rfl), w8 FrT.refl, fun i hi => by rw [pI_cell (by decide)], Or.inr ⟨rfl, f, by omega, pI_eq, pI_eq⟩⟩
      rw [e, cI_of (by omega) (by omega) (by omega) (by omega), if_pos rfl]
      unfold gI f_X6_fail uI
      dsimp only
      rw [c3, rZ_of (Or.inl rfl), bI_of, rZ_of (Or.inl rfl)]
    · have eM := mm so (fun a x y => ⟨fun q => wordIx_inj ⟨x, y⟩ hso (cdW_inj _ (wordIx_lt a) _ (wordIx_lt so) (q.2.symm.trans ((Tok_word tk (wordIx_lt so)).mpr ⟨g, hw⟩).2)), fun q => by rw [q]; exact (Tok_word tk (wordIx_lt so)).mpr ⟨g, hw⟩⟩)
      rw [if_pos hso] at eM
      have t4 := ((Tok_word tk (wordIx_lt so)).mpr ⟨g, hw⟩).1
      have t3 : Sm.1 0 3 = we t L f := by
        rcases tk.2.2 with ⟨_, a⟩ | ⟨_, a, q, _⟩ | ⟨_, _, ⟨_, a, _⟩ | ⟨_, a⟩⟩ | ⟨_, a, _⟩ | ⟨_, a⟩
        · omega
        · exact q
        all_goals omega
      obtain ⟨Sm1, n1, n2, n3, n4⟩ := nextJ (M + 3) J.2.1 t3 (by omega) w.2 (by omega)
      have n4 : Sm1.1 0 8 = -1 := n4.trans J.2.2.2.2.2.2
      have J1 : JT Sc1 (pI Sm1 6 x1 so) L t (we t L f) := JT.m (Sm := Sm1) ⟨h1, J.2.1.r n2 (fun q => q) (by decide), by omega, c2, by rw [c5]; exact J.2.2.2.2.1, n3, n4⟩ (pI_row (by decide)) (pI_row (by decide)) rfl
      obtain ⟨r, Sc', Sm', a1, a2, a3, a4, a5, a6⟩ := args_both N M J1 hso hx (k := k) (by rw [c6.2.1 75 (by decide)]; exact h75) hk pI_eq (by omega) (by omega)
      have ff : FrT r6 kB Sm (pI Sm1 6 x1 so) := FrT.wI (i := 6) (A := r6) (n2.trans FrT.refl (fun _ q => q.elim) (fun _ q => q) (fun _ q => q) (fun _ q => q)) rfl (by decide)
      refine ⟨r, Sc', Sm', ?_, ?_, f1.trans a3 (fun _ q => q) (fun _ q => q), ff.trans a4 (fun _ q => q) (fun _ q => q) (fun _ q => q) (fun _ q => q), fun i hi => ?_, ?_⟩
      · rw [cI_of (by omega) (by omega) (by omega) (by omega), if_neg (by omega), numbersOf_of N hso, bI_of]
        exact a1
      · rw [eM]
        unfold f_X11_readStep_33
        rw [cI_of (by omega) (by omega) (by omega) (by omega), if_neg (by omega), n1, bV_of, sI_of (by omega) (by omega)]
        exact a2
      · rw [a5 i (by omega), pI_idx (by omega), (n2.1 6 (by decide) (fun q => q)).1]
      · rcases a6 with ⟨a7, e, u, v, Sc0, b1, b2, b3, b4, b5⟩ | a7
        · exact Or.inl ⟨a7, e, so, u, v, Sc0, by omega, b2, fun j hj => by rw [b3 j hj, c6.2.1 j (by omega)], b4, b5⟩
        · exact Or.inr a7
  · rw [if_neg g, cI_of (by omega) (by omega) (by omega) (by omega), if_pos rfl]
    rw [if_neg g] at c5
    have eM := mm (-1) (fun a x y => ⟨fun q => absurd ((Tok_word tk (wordIx_lt a)).mp q).1 g, fun q => by omega⟩)
    rw [if_neg (by omega)] at eM
    exact ⟨0, Sc1, pI Sm 0 8 f, rZ_of (Or.inl rfl), eM.trans m33, f1, w8 FrT.refl, fun i hi => by rw [pI_cell (by decide)], Or.inr ⟨rfl, f, by omega, c5, pI_eq⟩⟩
end STEPS
