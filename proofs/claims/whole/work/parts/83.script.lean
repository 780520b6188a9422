/-! texts: a script on both sides -/
abbrev r67 : Nat → Prop := fun j => j = 6 ∨ j = 7
section SCRIPT
variable {S Sc Sm : S2} {L p f n : Int} {t : Int → Int}
theorem Tok_3 (h : TokF S L t f) : (S.1 0 4 = 0 ∧ L ≤ f) ∨ (S.1 0 4 = 3 ∧ (f < L ∧ t f = 59) ∧ S.1 0 3 = f + 1) ∨ (S.1 0 4 ≠ 0 ∧ S.1 0 4 ≠ 3 ∧ f < L ∧ t f ≠ 59) := by
  obtain ⟨h5, hf, h⟩ := h
  rcases h with ⟨g, c⟩ | ⟨g, c, _⟩ | ⟨g, m, h⟩ | ⟨g, c, d⟩ | ⟨g, c⟩
  · exact Or.inl ⟨c, g⟩
  · refine Or.inr (Or.inr ⟨by omega, by omega, g.1, fun q => ?_⟩)
    have := g.2; unfold isLt at this; omega
  · refine Or.inr (Or.inr ⟨?_, ?_, g.1, fun q => ?_⟩)
    · rcases h with ⟨_, c, _⟩ | ⟨_, c⟩ <;> omega
    · rcases h with ⟨_, c, _⟩ | ⟨_, c⟩ <;> omega
    · have := g.2.2; unfold isDg at this; omega
  · exact Or.inr (Or.inl ⟨c, g, d⟩)
  · exact Or.inr (Or.inr ⟨by omega, by omega, g.1, g.2.2.2.2⟩)
/-- behind a part -/
theorem semi_both (N : Nat) (J : JT Sc Sm L t p) {m : Int} (hm : m = 0 ∨ m = 1) (hN : 500 ≤ N) : ∃ r Sc', f_X6_readSemicolon N Sc 1 m = some (r, Sc') ∧ FrR kS Sc Sc' ∧ ((r = 0 ∧ Sm.1 0 4 = 0 ∧ Sc'.1 1 2 = -1) ∨ (r = 1 ∧ m = 1 ∧ Sm.1 0 4 = 3 ∧ Sc'.1 1 2 = -1 ∧ ∃ e, (p < e ∧ e ≤ L) ∧ Sc'.1 1 1 = e ∧ Sm.1 0 3 = e) ∨ (r = 0 ∧ Sm.1 0 4 ≠ 0 ∧ (Sm.1 0 4 = 3 → m = 0) ∧ Sc'.1 1 2 = bk t L p)) := by
  obtain ⟨hc, hmm, hp, e1, e2, tk, e8⟩ := J
  have b := bk_in (t := t) hp.1 hp.2
  obtain ⟨r, Sc', c1, c2, c3⟩ := readSemiC N hc e1 hp.1 hp.2 hm hN
  refine ⟨r, Sc', c1, c2, ?_⟩
  rcases Tok_3 tk with ⟨a, q⟩ | ⟨a, q, q3⟩ | ⟨a, a', q, q59⟩
  · rcases c3 with ⟨_, x, y⟩ | ⟨x, _⟩ | ⟨x, _⟩
    · exact Or.inl ⟨x, a, by rw [y]; exact e2⟩
    · omega
    · omega
  · rcases c3 with ⟨x, _⟩ | ⟨_, x, y, z, u, v⟩ | ⟨_, x, y, z⟩
    · omega
    · exact Or.inr (Or.inl ⟨z, y, a, by rw [v]; exact e2, bk t L p + 1, by omega, u, q3⟩)
    · refine Or.inr (Or.inr ⟨y, by omega, fun _ => ?_, z⟩)
      rcases hm with hm | hm
      · exact hm
      · exact absurd ⟨q.2, hm⟩ x
  · rcases c3 with ⟨x, _⟩ | ⟨_, x, _⟩ | ⟨_, x, y, z⟩
    · omega
    · exact absurd x q59
    · exact Or.inr (Or.inr ⟨y, a, fun k => absurd k a', z⟩)
theorem begin_both (N M : Nat) (T : TapeR Sc Sm) (hM : 500 ≤ M) : ∃ Sc' Sm', f_X6_begin N Sc 1 = some Sc' ∧ f_X11_begins M Sm = some Sm' ∧ Fr (fun j => j = 1) Sc Sc' ∧ FrT no0 kB Sm Sm' ∧ JT Sc' Sm' (Sc.1 2 1) (Sc.1 3) 0 ∧ Sc'.1 1 6 = 0 ∧ Sc'.1 1 7 = 0 := by
  obtain ⟨hL, e2, hb⟩ := T
  have fm : FrT no0 kB Sm (pI (pI Sm 0 3 0) 0 8 (-1)) := (FrT.refl.w (Or.inl (by omega))).w (Or.inl (by omega))
  have hm : RdM Sm (Sc.1 2 1) (Sc.1 3) := ⟨hL, e2, fun i a b => (hb i a b).1, fun i a b => (hb i a b).2⟩
  obtain ⟨S', a, b, c, d⟩ := nextJ (Sm := pI (pI Sm 0 3 0) 0 8 (-1)) M (hm.r fm (fun q => q) (by decide)) (p := 0) (by rw [pI_idx (by decide), pI_eq]) (by omega) hL.1 hM
  have fc : Fr (fun j => j = 1) Sc (pI (pI (pI (pI Sc 1 1 0) 1 2 (-1)) 1 6 0) 1 7 0) := (((Fr.refl.pI (A := fun j => j = 1) rfl).pI rfl).pI rfl).pI rfl
  have fm' : FrT no0 kB Sm S' := fm.trans b (fun _ q => q) (fun _ q => q) (fun _ q => q) (fun _ q => q)
  refine ⟨pI (pI (pI (pI Sc 1 1 0) 1 2 (-1)) 1 6 0) 1 7 0, S', ?_, ?_, fc, fm', ⟨⟨hL, by rw [fc.2 2 (by decide)], fun i _ _ => by rw [fc.2 3 (by decide)], fun i x y => (hb i x y).2⟩, hm.r fm' (fun q => q) (by decide), ⟨Int.le_refl 0, hL.1⟩, by rw [pI_idx (by decide), pI_idx (by decide), pI_idx (by decide), pI_eq], by rw [pI_idx (by decide), pI_idx (by decide), pI_eq], c, by rw [d, pI_eq]⟩, by rw [pI_idx (by decide), pI_eq], pI_eq⟩
  · unfold f_X6_begin uI
    dsimp only
    rw [uZ_of (Or.inl rfl), uZ_of (Or.inl rfl)]; rfl
  · unfold f_X11_begins uI
    dsimp only
    rw [a]; rfl
/-- k steps are read -/
def DS (Sc Sm : S2) (n k : Int) : Prop := Sc.1 75 0 = k ∧ Sm.1 7 n = k ∧ ∀ i, 0 ≤ i → i < k → StpR (Sc.1 76 i) (Sc.1 77 i) (Sc.1 78 i) (Sm.1 6 (3 * (12 * n + i))) (Sm.1 6 (3 * (12 * n + i) + 1)) (Sm.1 6 (3 * (12 * n + i) + 2))
theorem r88_ok (M : Nat) (h8 : S.1 0 8 = -1) (h4 : S.1 0 4 = 0) : f_X11_readScript_88 M S = some (-1, S) := by
  unfold f_X11_readScript_88 gI f_X11_readScript_107 gI
  dsimp only
  rw [h8, h4, cI_of (by omega) (by omega) (by omega) (by omega), if_pos rfl, cI_of (by omega) (by omega) (by omega) (by omega), if_pos rfl]; rfl
theorem r88_bad (M : Nat) (tk : TokF S L t f) (h8 : S.1 0 8 = -1) (h4 : S.1 0 4 ≠ 0) : f_X11_readScript_88 M S = some (f, pI S 0 8 f) := by
  have x := tk.x
  unfold f_X11_readScript_88 gI f_X11_readScript_107 gI
  dsimp only
  rw [h8, cI_of (by omega) (by omega) (by omega) (by omega), if_pos rfl, cI_of (by omega) (by omega) (by omega) (by omega), if_neg h4, bad_of M h8 tk.1, bV_of, pI_eq]; rfl
theorem r88_w (M : Nat) {q : Int} (hq : 0 ≤ q ∧ q ≤ 400) (h8 : S.1 0 8 = q) : f_X11_readScript_88 M S = some (q, S) := by
  unfold f_X11_readScript_88 gI f_X11_readScript_107 gI
  dsimp only
  rw [h8, cI_of (by omega) (by omega) (by omega) (by omega), if_neg (by omega)]; rfl
theorem adS_at {k so f g : Int} : (adS S k so f g).1 76 k = so ∧ (adS S k so f g).1 77 k = f ∧ (adS S k so f g).1 78 k = g ∧ (adS S k so f g).1 75 0 = k + 1 := by
  refine ⟨?_, ?_, ?_, pI_eq⟩
  · unfold adS; rw [pI_cell (by decide), pI_cell (by decide), pI_cell (by decide), pI_eq]
  · unfold adS; rw [pI_cell (by decide), pI_cell (by decide), pI_eq]
  · unfold adS; rw [pI_cell (by decide), pI_eq]
theorem adS_ne {k so f g i : Int} (h : i ≠ k) : (adS S k so f g).1 76 i = S.1 76 i ∧ (adS S k so f g).1 77 i = S.1 77 i ∧ (adS S k so f g).1 78 i = S.1 78 i := by
  refine ⟨?_, ?_, ?_⟩
  · unfold adS; rw [pI_cell (by decide), pI_cell (by decide), pI_cell (by decide), pI_idx h]
  · unfold adS; rw [pI_cell (by decide), pI_cell (by decide), pI_idx h, pI_cell (by decide)]
  · unfold adS; rw [pI_cell (by decide), pI_idx h, pI_cell (by decide), pI_cell (by decide)]
theorem script_loop {N0 M0 : Nat} (hn : 0 ≤ n ∧ n ≤ 4) : ∀ (d N M : Nat) (k p : Int) (Sc Sm : S2), 0 ≤ k → k < 12 → k + d = 12 → 800 + d ≤ N → 800 + d ≤ M → JT Sc Sm L t p → DS Sc Sm n k → ∃ q Sc' Sm', f_X6_readScript_13 1 75 (f_X6_readScript_61 1 75 N0) N 1 (k + 1) Sc = some (q, Sc') ∧ f_X11_readScript_13 (f_X11_readScript_88 M0) M n 1 Sm = some (q, Sm') ∧ Fr scA Sc Sc' ∧ FrT r67 kB Sm Sm' ∧ (∀ i, i < 36 * n → Sm'.1 6 i = Sm.1 6 i) ∧ (∀ i, i ≠ n → Sm'.1 7 i = Sm.1 7 i) ∧ (-1 ≤ q ∧ q ≤ 400) ∧ (q = -1 → ∃ k', (1 ≤ k' ∧ k' ≤ 12) ∧ DS Sc' Sm' n k') := by
  intro d
  induction d with
  | zero => intro N M k p Sc Sm h0 h1 h2; omega
  | succ d ih =>
    intro N M k p Sc Sm h0 h1 h2 hN hM J D
    obtain ⟨N, rfl⟩ : ∃ N', N = N' + 2 := ⟨N - 2, by omega⟩
    obtain ⟨M, rfl⟩ : ∃ M', M = M' + 3 + 1 := ⟨M - 4, by omega⟩
    obtain ⟨D1, D2, D3⟩ := D
    obtain ⟨r, Sc1, Sm1, a1, a2, a3, a4, a5, a6⟩ := stepT_both (N + 1) M J (x1 := 3 * (12 * n + k)) (by omega) D1 ⟨h0, h1⟩ (by omega) (by omega)
    have hL := J.1.1
    have e7 : Sm1.1 7 n = k := by rw [(a4.1 7 (by decide) (by decide)).1]; exact D2
    obtain ⟨Sm2, hS2⟩ : ∃ Sm2, Sm2 = pI Sm1 7 n (k + 1) := ⟨_, rfl⟩
    have f2 : FrT r67 kB Sm Sm2 := by
      rw [hS2]
      exact FrT.wI (i := 7) (A := r67) (a4.trans FrT.refl (fun _ q => Or.inl q) (fun _ q => q) (fun _ q => q) (fun _ q => q)) (Or.inr rfl) (by decide)
    have e6 : Sm2.1 6 = Sm1.1 6 := by rw [hS2]; exact pI_row (by decide)
    have e72 : Sm2.1 7 n = k + 1 := by rw [hS2]; exact pI_eq
    have e7o : ∀ i, i ≠ n → Sm2.1 7 i = Sm.1 7 i := fun i hi => by rw [hS2, pI_idx hi, (a4.1 7 (by decide) (by decide)).1]
    have e6o : ∀ i, i < 36 * n → Sm2.1 6 i = Sm.1 6 i := fun i hi => by rw [e6]; exact a5 i (by omega)
    have mM : f_X11_readScript_13 (f_X11_readScript_88 M0) (M + 3 + 1) n 1 Sm = gI Sm2 0 8 fun v45 => cI v45 (-1) (if v45 = (-1) then gI Sm2 0 4 fun v53 => cI v53 3 (if v53 = 3 then aI Sm2 7 5 n fun v65 => cI v65 12 (if 12 ≤ v65 then (f_X11_readScript_75 (f_X11_readScript_13 (f_X11_readScript_88 M0) (M + 3)) (M + 3)) n Sm2 else (f_X11_readScript_76 (f_X11_readScript_13 (f_X11_readScript_88 M0) (M + 3)) (M + 3)) n 1 Sm2) else (f_X11_readScript_75 (f_X11_readScript_13 (f_X11_readScript_88 M0) (M + 3)) (M + 3)) n Sm2) else (f_X11_readScript_75 (f_X11_readScript_13 (f_X11_readScript_88 M0) (M + 3)) (M + 3)) n Sm2) := by
      rw [f_X11_readScript_13, cI_of (by omega) (by omega) (by omega) (by omega), if_neg (by decide), aI_of (by omega) (by omega), D2, a2, bV_of, aI_of (by omega) (by omega), e7, sI_of (by omega) (by omega), ← hS2]
    have m75 : f_X11_readScript_75 (f_X11_readScript_13 (f_X11_readScript_88 M0) (M + 3)) (M + 3) n Sm2 = f_X11_readScript_88 M0 Sm2 := by
      unfold f_X11_readScript_75 f_X11_readScript_76
      rw [cI_of (by omega) (by omega) (by omega) (by omega), if_pos rfl, f_X11_readScript_13, cI_of (by omega) (by omega) (by omega) (by omega), if_pos rfl]
    have stopC : ∀ (q : Int) (S : S2), S.1 1 2 = q → f_X6_readScript_53 1 75 (f_X6_readScript_13 1 75 (f_X6_readScript_61 1 75 N0) (N + 1)) (N + 1) (k + 1) S = some (q, S) := fun q S hq => by
      unfold f_X6_readScript_53 f_X6_readScript_54
      rw [f_X6_readScript_13, cI_of (by omega) (by omega) (by omega) (by omega), if_pos rfl]
      unfold f_X6_readScript_61 gI
      dsimp only
      rw [hq]; rfl
    have mC : f_X6_readScript_13 1 75 (f_X6_readScript_61 1 75 N0) (N + 2) 1 (k + 1) Sc = cI r 0 (if r = 0 then (f_X6_readScript_53 1 75 (f_X6_readScript_13 1 75 (f_X6_readScript_61 1 75 N0) (N + 1)) (N + 1)) (k + 1) Sc1 else cI (k + 1) 12 (if 12 ≤ (k + 1) then (f_X6_readScript_43 1 75 (f_X6_readScript_13 1 75 (f_X6_readScript_61 1 75 N0) (N + 1)) (N + 1)) (k + 1) 0 Sc1 else (f_X6_readScript_43 1 75 (f_X6_readScript_13 1 75 (f_X6_readScript_61 1 75 N0) (N + 1)) (N + 1)) (k + 1) 1 Sc1)) := by
      rw [f_X6_readScript_13, cI_of (by omega) (by omega) (by omega) (by omega), if_neg (by decide), cI_of (by omega) (by omega) (by omega) (by omega), if_neg (by omega), a1, bI_of]
    rw [mC, mM]
    unfold gI
    dsimp only
    rcases a6 with ⟨rfl, e, so, u, v, Sc0, b1, b2, b3, b4, b5⟩ | ⟨rfl, q, jf⟩
    · have J2 : JT Sc1 Sm2 L t e := by rw [hS2]; exact b2.m (pI_row (by decide)) (pI_row (by decide)) rfl
      have D' : ∀ {S : S2}, (∀ j, 75 ≤ j → S.1 j = Sc1.1 j) → DS S Sm2 n (k + 1) := fun {S} hj => by
        refine ⟨by rw [hj 75 (by omega), b4]; exact pI_eq, e72, fun i x y => ?_⟩
        rw [hj 76 (by omega), hj 77 (by omega), hj 78 (by omega), e6, b4]
        by_cases g : i = k
        · rw [g, adS_at.1, adS_at.2.1, adS_at.2.2.1]; exact b5
        · rw [(adS_ne g).1, (adS_ne g).2.1, (adS_ne g).2.2, b3 76 (by omega), b3 77 (by omega), b3 78 (by omega), a5 _ (by omega), a5 _ (by omega), a5 _ (by omega)]
          exact D3 i x (by omega)
      obtain ⟨m, hm, hmk⟩ : ∃ m : Int, (m = 0 ∨ m = 1) ∧ (m = 0 ↔ 12 ≤ k + 1) := by
        by_cases g : 12 ≤ k + 1
        · exact ⟨0, Or.inl rfl, fun _ => g, fun _ => rfl⟩
        · exact ⟨1, Or.inr rfl, fun q => by omega, fun q => absurd q g⟩
      obtain ⟨r, Sc2, s1, s2, s3⟩ := semi_both (N + 1) J2 hm (by omega)
      have fS : Fr scA Sc Sc2 := a3.trans (s2.fr (A := scA) (Or.inl rfl)) (fun _ q => q) (fun _ q => q)
      have c43 : (cI 1 0 (if (1 : Int) = 0 then (f_X6_readScript_53 1 75 (f_X6_readScript_13 1 75 (f_X6_readScript_61 1 75 N0) (N + 1)) (N + 1)) (k + 1) Sc1 else cI (k + 1) 12 (if 12 ≤ (k + 1) then (f_X6_readScript_43 1 75 (f_X6_readScript_13 1 75 (f_X6_readScript_61 1 75 N0) (N + 1)) (N + 1)) (k + 1) 0 Sc1 else (f_X6_readScript_43 1 75 (f_X6_readScript_13 1 75 (f_X6_readScript_61 1 75 N0) (N + 1)) (N + 1)) (k + 1) 1 Sc1))) = cI r 0 (if r = 0 then (f_X6_readScript_53 1 75 (f_X6_readScript_13 1 75 (f_X6_readScript_61 1 75 N0) (N + 1)) (N + 1)) (k + 1) Sc2 else f_X6_readScript_13 1 75 (f_X6_readScript_61 1 75 N0) (N + 1) 1 (k + 1 + 1) Sc2) := by
        rw [cI_of (by omega) (by omega) (by omega) (by omega), if_neg (by decide), cI_of (by omega) (by omega) (by omega) (by omega)]
        have e43 : f_X6_readScript_43 1 75 (f_X6_readScript_13 1 75 (f_X6_readScript_61 1 75 N0) (N + 1)) (N + 1) (k + 1) m Sc1 = cI r 0 (if r = 0 then (f_X6_readScript_53 1 75 (f_X6_readScript_13 1 75 (f_X6_readScript_61 1 75 N0) (N + 1)) (N + 1)) (k + 1) Sc2 else f_X6_readScript_13 1 75 (f_X6_readScript_61 1 75 N0) (N + 1) 1 (k + 1 + 1) Sc2) := by
          unfold f_X6_readScript_43
          rw [s1, bI_of]; rfl
        rw [← e43]
        by_cases g : 12 ≤ k + 1
        · rw [if_pos g, hmk.mpr g]
        · rw [if_neg g, show m = 1 by rcases hm with q | q; exact absurd (hmk.mp q) g; exact q]
      rw [c43]
      have tk := J2.2.2.2.2.2.1
      have x4 := tk.x
      have e8 := J2.2.2.2.2.2.2
      have h5 := J2.2.2.1
      have be := bk_in (t := t) h5.1 h5.2
      rw [e8, cI_of (x := -1) (y := -1) (by decide) (by decide) (by decide) (by decide), if_pos rfl]
      rcases s3 with ⟨rfl, s4, s5⟩ | ⟨rfl, s4, s5, s6, e', s7, s8, s9⟩ | ⟨rfl, s4, s5, s6⟩
      · -- the end
        refine ⟨-1, Sc2, Sm2, ?_, ?_, fS, f2, e6o, e7o, by omega, fun _ => ⟨k + 1, by omega, D' (fun j hj => s2.2.1 j (by omega))⟩⟩
        · rw [cI_of (by omega) (by omega) (by omega) (by omega), if_pos rfl, stopC _ _ s5]
        · rw [s4, cI_of (by omega) (by omega) (by omega) (by omega), if_neg (by decide), m75, r88_ok M0 e8 s4]
      · -- a ;
        have g : ¬ 12 ≤ k + 1 := fun q => by have := hmk.mpr q; omega
        obtain ⟨Sm3, n1, n2, n3, n4⟩ := nextJ (M + 3) J2.2.1 s9 (by omega) s7.2 (by omega)
        have J3 : JT Sc2 Sm3 L t e' := ⟨J2.1.r s2, J2.2.1.r n2 (fun q => q) (by decide), by omega, s8, s6, n3, n4.trans e8⟩
        have f7 : Sm3.1 7 = Sm2.1 7 := (n2.1 7 (by decide) (fun q => q)).1
        have f6 : Sm3.1 6 = Sm2.1 6 := (n2.1 6 (by decide) (fun q => q)).1
        have D3' : DS Sc2 Sm3 n (k + 1) := by
          have := D' (S := Sc2) (fun j hj => s2.2.1 j (by omega))
          unfold DS at this ⊢
          rw [f6, f7]; exact this
        obtain ⟨q, Sc', Sm', i1, i2, i3, i4, i5, i6, i7, i8⟩ := ih (N + 1) (M + 3) (k + 1) e' Sc2 Sm3 (by omega) (by omega) (by omega) (by omega) (by omega) J3 D3'
        refine ⟨q, Sc', Sm', ?_, ?_, fS.trans i3 (fun _ q => q) (fun _ q => q), f2.trans (n2.trans i4 (fun _ q => q.elim) (fun _ q => q) (fun _ q => q) (fun _ q => q) (A'' := r67) (F'' := kB)) (fun _ q => q) (fun _ q => q) (fun _ q => q) (fun _ q => q), fun i hi => by rw [i5 i hi, f6]; exact e6o i hi, fun i hi => by rw [i6 i hi, f7]; exact e7o i hi, i7, i8⟩
        · rw [cI_of (by omega) (by omega) (by omega) (by omega), if_neg (by decide)]; exact i1
        · rw [s5, cI_of (by omega) (by omega) (by omega) (by omega), if_pos rfl, aI_of (by omega) (by omega), e72, cI_of (by omega) (by omega) (by omega) (by omega), if_neg g]
          unfold f_X11_readScript_76
          rw [cI_of (by omega) (by omega) (by omega) (by omega), if_neg (by decide), n1, bV_of]; exact i2
      · -- a fault
        refine ⟨bk t L e, Sc2, pI Sm2 0 8 (bk t L e), ?_, ?_, fS, f2.w (Or.inl (by omega)), fun i hi => by rw [pI_cell (by decide)]; exact e6o i hi, fun i hi => by rw [pI_cell (by decide)]; exact e7o i hi, by omega, fun q => by omega⟩
        · rw [cI_of (by omega) (by omega) (by omega) (by omega), if_pos rfl, stopC _ _ s6]
        · rw [cI_of (by omega) (by omega) (by omega) (by omega)]
          by_cases g : Sm2.1 0 4 = 3
          · rw [if_pos g, aI_of (by omega) (by omega), e72, cI_of (by omega) (by omega) (by omega) (by omega), if_pos (hmk.mp (s5 g)), m75, r88_bad M0 tk e8 s4]
          · rw [if_neg g, m75, r88_bad M0 tk e8 s4]
    · obtain ⟨hq, jc, jm⟩ := jf
      have e8 : Sm2.1 0 8 = q := by rw [hS2, pI_cell (by decide)]; exact jm
      refine ⟨q, Sc1, Sm2, ?_, ?_, a3, f2, e6o, e7o, by omega, fun h => by omega⟩
      · rw [cI_of (by omega) (by omega) (by omega) (by omega), if_pos rfl, stopC _ _ jc]
      · rw [e8, cI_of (by omega) (by omega) (by omega) (by omega), if_neg (by omega), m75, r88_w M0 (by omega) e8]
end SCRIPT
