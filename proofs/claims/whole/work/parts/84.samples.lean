/-! texts: the samples on both sides -/
abbrev trA : Nat → Prop := fun j => j = 1 ∨ j = 54 ∨ j = 55 ∨ (70 ≤ j ∧ j ≤ 74)
abbrev trM : Nat → Prop := fun j => 2 ≤ j ∧ j ≤ 5
abbrev kX : Int → Prop := fun k => (3 ≤ k ∧ k ≤ 8) ∨ k = 10 ∨ (15 ≤ k ∧ k ≤ 18)
abbrev smA : Nat → Prop := fun j => j = 1 ∨ j = 54 ∨ j = 55
abbrev smM : Nat → Prop := fun j => j = 2
abbrev kY : Int → Prop := fun k => (3 ≤ k ∧ k ≤ 8) ∨ k = 10 ∨ k = 15
/-- m samples are read -/
def SmR (Sc Sm : S2) (m : Int) : Prop := Sc.1 54 1 = m ∧ Sm.1 0 15 = m ∧ ∀ i, 0 ≤ i → i < m → Sm.1 2 i = Sc.1 55 i ∧ 0 ≤ Sc.1 55 i ∧ Sc.1 55 i ≤ 999
/-- the reference has seen the fault that the class will see at once -/
def JE (Sc Sm : S2) (L : Int) (t : Int → Int) (e : Int) : Prop := RdT Sc L t ∧ (0 ≤ e ∧ e ≤ L) ∧ Sc.1 1 1 = e ∧ Sc.1 1 2 = -1 ∧ bk t L e < L ∧ t (bk t L e) ≠ 59 ∧ Sm.1 0 8 = bk t L e
section SAMPLES
variable {S Sc Sm : S2} {L p f n : Int} {t : Int → Int}
theorem r79_w (M : Nat) {q : Int} (hq : 0 ≤ q ∧ q ≤ 400) (h8 : S.1 0 8 = q) : f_X11_readSamples_79 M S = some S := by
  unfold f_X11_readSamples_79 gI
  dsimp only
  rw [h8, cI_of (by omega) (by omega) (by omega) (by omega), if_neg (by omega)]; rfl
theorem r79_n (M : Nat) (tk : TokF S L t f) (h8 : S.1 0 8 = -1) (h4 : S.1 0 4 ≠ 4) : f_X11_readSamples_79 M S = some S := by
  have x := tk.x
  unfold f_X11_readSamples_79 gI
  dsimp only
  rw [h8, cI_of (by omega) (by omega) (by omega) (by omega), if_pos rfl, cI_of (by omega) (by omega) (by omega) (by omega), if_neg h4]; rfl
theorem r79_b (M : Nat) (tk : TokF S L t f) (h8 : S.1 0 8 = -1) (h4 : S.1 0 4 = 4) : f_X11_readSamples_79 M S = some (pI S 0 8 f) := by
  unfold f_X11_readSamples_79 gI
  dsimp only
  rw [h8, cI_of (by omega) (by omega) (by omega) (by omega), if_pos rfl, h4, cI_of (by omega) (by omega) (by omega) (by omega), if_pos rfl, bad_of M h8 tk.1]; rfl
theorem r7_0 {M0 : Nat} (M : Nat) : f_X11_readSamples_7 (f_X11_readSamples_79 M0) (M + 1) 0 S = f_X11_readSamples_79 M0 S := by
  rw [f_X11_readSamples_7, cI_of (by omega) (by omega) (by omega) (by omega), if_pos rfl]
theorem r54_w {M0 : Nat} (M : Nat) {q : Int} (hq : 0 ≤ q ∧ q ≤ 400) (h8 : S.1 0 8 = q) : f_X11_readSamples_54 (f_X11_readSamples_7 (f_X11_readSamples_79 M0) (M + 1)) (M + 1) S = some S := by
  unfold f_X11_readSamples_54 gI f_X11_readSamples_74 f_X11_readSamples_75
  dsimp only
  rw [h8, cI_of (by omega) (by omega) (by omega) (by omega), if_neg (by omega), r7_0, r79_w M0 hq h8]
theorem r54_2 {M0 : Nat} (M : Nat) (h8 : S.1 0 8 = -1) (h4 : S.1 0 4 = 2) : f_X11_readSamples_54 (f_X11_readSamples_7 (f_X11_readSamples_79 M0) (M + 1)) (M + 1) S = f_X11_readSamples_7 (f_X11_readSamples_79 M0) (M + 1) 1 S := by
  unfold f_X11_readSamples_54 gI f_X11_readSamples_75
  dsimp only
  rw [h8, cI_of (by omega) (by omega) (by omega) (by omega), if_pos rfl, h4, cI_of (by omega) (by omega) (by omega) (by omega), if_pos rfl]
theorem r54_n {M0 : Nat} (M : Nat) (tk : TokF S L t f) (h8 : S.1 0 8 = -1) (h4 : S.1 0 4 ≠ 2) : f_X11_readSamples_54 (f_X11_readSamples_7 (f_X11_readSamples_79 M0) (M + 1)) (M + 1) S = f_X11_readSamples_79 M0 S := by
  have x := tk.x
  unfold f_X11_readSamples_54 gI f_X11_readSamples_74 f_X11_readSamples_75
  dsimp only
  rw [h8, cI_of (by omega) (by omega) (by omega) (by omega), if_pos rfl, cI_of (by omega) (by omega) (by omega) (by omega), if_neg h4, r7_0]
/-- one more number on the reference's side -/
theorem r7_48 {M0 : Nat} (M : Nat) (tk : TokF S L t f) (hL : L ≤ 400) (h8 : S.1 0 8 = -1) (h15 : S.1 0 15 = 48) : f_X11_readSamples_7 (f_X11_readSamples_79 M0) (M + 2) 1 S = some (pI S 0 8 f) := by
  rw [f_X11_readSamples_7, cI_of (by omega) (by omega) (by omega) (by omega), if_neg (by decide)]
  unfold gI
  dsimp only
  rw [h15, cI_of (by omega) (by omega) (by omega) (by omega), if_pos rfl, bad_of _ h8 tk.1, bV_of]
  exact r54_w M (q := f) (by have := tk.2.1; omega) pI_eq
theorem r7_num {M0 : Nat} {m x : Int} {S' : S2} (M : Nat) (h15 : S.1 0 15 = m) (hm : 0 ≤ m ∧ m < 48) (en : f_X11_number (M + 1) S 0 999 = some (x, S')) (e15 : S'.1 0 15 = m) : f_X11_readSamples_7 (f_X11_readSamples_79 M0) (M + 1 + 1) 1 S = f_X11_readSamples_54 (f_X11_readSamples_7 (f_X11_readSamples_79 M0) (M + 1)) (M + 1) (pI (pI S' 2 m x) 0 15 (m + 1)) := by
  rw [f_X11_readSamples_7, cI_of (by omega) (by omega) (by omega) (by omega), if_neg (by decide)]
  unfold gI
  dsimp only
  rw [h15, cI_of (by omega) (by omega) (by omega) (by omega), if_neg (by omega), en, bI_of, sI_of (by omega) (by omega)]
  unfold uI
  rw [pI_cell (by decide), e15]
theorem c66_1 (N : Nat) (e : S.1 1 1 = f) : f_X6_readSamples_66 1 54 N 1 S = some (0, pI S 1 2 f) := by
  unfold f_X6_readSamples_66 gI f_X6_fail uI
  dsimp only
  rw [e, cI_of (by omega) (by omega) (by omega) (by omega), if_neg (by decide), rZ_of (Or.inl rfl), bI_of, cI_of (by omega) (by omega) (by omega) (by omega), if_pos rfl, rZ_of (Or.inl rfl)]
theorem c4_0 {N0 : Nat} (N : Nat) {x3 : Int} : f_X6_readSamples_4 1 54 (f_X6_readSamples_66 1 54 N0) (N + 1) 0 x3 S = some (1, S) := by
  rw [f_X6_readSamples_4, cI_of (by omega) (by omega) (by omega) (by omega), if_pos rfl]
  unfold f_X6_readSamples_66
  rw [cI_of (by omega) (by omega) (by omega) (by omega), if_pos rfl]
  unfold f_X6_readSamples_81
  rw [rZ_of (Or.inr rfl)]
theorem c4_48 {N0 : Nat} (N : Nat) (e : S.1 1 1 = f) : f_X6_readSamples_4 1 54 (f_X6_readSamples_66 1 54 N0) (N + 1) 1 48 S = some (0, pI S 1 2 f) := by
  rw [f_X6_readSamples_4, cI_of (by omega) (by omega) (by omega) (by omega), if_neg (by decide), cI_of (by omega) (by omega) (by omega) (by omega), if_pos (by decide), c66_1 N0 e]
theorem c4_bad {N0 : Nat} {x3 : Int} {S' : S2} (N : Nat) (hx : 0 ≤ x3 ∧ x3 < 48) (en : f_X6_readNumber N S 1 0 999 = some (0, S')) : f_X6_readSamples_4 1 54 (f_X6_readSamples_66 1 54 N0) (N + 1) 1 x3 S = some (0, S') := by
  rw [f_X6_readSamples_4, cI_of (by omega) (by omega) (by omega) (by omega), if_neg (by decide), cI_of (by omega) (by omega) (by omega) (by omega), if_neg (by omega), en, bI_of, cI_of (by omega) (by omega) (by omega) (by omega), if_pos rfl, rZ_of (Or.inl rfl)]
theorem JT.mE {Sm' : S2} (J : JT Sc Sm L t p) (h0 : ∀ k, ((2 ≤ k ∧ k ≤ 8) ∨ k = 10) → Sm'.1 0 k = Sm.1 0 k) (h1 : Sm'.1 1 = Sm.1 1) (h2 : Sm'.2 0 9 = Sm.2 0 9) : JT Sc Sm' L t p := by
  obtain ⟨hc, ⟨a1, a2, a3, a4⟩, hp, e1, e2, tk, e8⟩ := J
  refine ⟨hc, ⟨a1, by rw [h0 2 (by omega)]; exact a2, fun i x y => by rw [h1]; exact a3 i x y, a4⟩, hp, e1, e2, ?_, by rw [h0 8 (by omega)]; exact e8⟩
  unfold TokF at tk ⊢
  rw [h0 3 (by omega), h0 4 (by omega), h0 5 (by omega), h0 6 (by omega), h0 7 (by omega), h0 10 (by omega), h2]; exact tk
theorem samples_loop {N0 M0 : Nat} : ∀ (d N M : Nat) (m p : Int) (Sc Sm : S2), 0 ≤ m → m + d = 48 → 800 + d ≤ N → 800 + d ≤ M → JT Sc Sm L t p → SmR Sc Sm m → (1 ≤ m → bk t L p = p) → ∃ r Sc' Sm', f_X6_readSamples_4 1 54 (f_X6_readSamples_66 1 54 N0) N 1 m Sc = some (r, Sc') ∧ f_X11_readSamples_7 (f_X11_readSamples_79 M0) M 1 Sm = some Sm' ∧ Fr smA Sc Sc' ∧ Sc'.1 54 2 = Sc.1 54 2 ∧ Sc'.1 1 6 = Sc.1 1 6 ∧ Sc'.1 1 7 = Sc.1 1 7 ∧ FrT smM kY Sm Sm' ∧ ((r = 0 ∧ ∃ q, JF Sc' Sm' L q) ∨ (r = 1 ∧ ∃ e, p < e ∧ ((∃ m', (1 ≤ m' ∧ m' ≤ 48) ∧ JT Sc' Sm' L t e ∧ SmR Sc' Sm' m') ∨ JE Sc' Sm' L t e))) := by
  intro d
  induction d with
  | zero =>
    intro N M m p Sc Sm h0 hm hN hM J R hb
    obtain ⟨N, rfl⟩ : ∃ N', N = N' + 1 := ⟨N - 1, by omega⟩
    obtain ⟨M, rfl⟩ : ∃ M', M = M' + 2 := ⟨M - 2, by omega⟩
    have hb := hb (by omega)
    have em : m = 48 := by omega
    have hL := J.1.1
    have hp := J.2.2.1
    have tk := J.2.2.2.2.2.1
    rw [hb] at tk
    rw [em] at R ⊢
    exact ⟨0, _, _, c4_48 N J.2.2.2.1, r7_48 M tk hL.2 J.2.2.2.2.2.2 R.2.1, Fr.refl.pI (A := smA) (Or.inl rfl), by rw [pI_cell (by decide)], by rw [pI_idx (by decide)], by rw [pI_idx (by decide)], FrT.refl.w (Or.inl (by omega)), Or.inl ⟨rfl, p, by omega, pI_eq, pI_eq⟩⟩
  | succ d ih =>
    intro N M m p Sc Sm h0 hm hN hM J R hb
    obtain ⟨N, rfl⟩ : ∃ N', N = N' + 2 := ⟨N - 2, by omega⟩
    obtain ⟨M, rfl⟩ : ∃ M', M = M' + 2 + 1 := ⟨M - 3, by omega⟩
    have hL := J.1.1
    have hp := J.2.2.1
    have bp := bk_in (t := t) hp.1 hp.2
    obtain ⟨r, Sc1, x, Sm1, a1, a2, a3, a4, a5, a6⟩ := num_both (N + 1) (M + 2) J (hi := 999) (by omega) (by omega) (by omega)
    have e15 : Sm1.1 0 15 = m := by rw [a4.2.1 15 (by decide)]; exact R.2.1
    have up : FrT smM kY Sm Sm1 := a4.trans FrT.refl (fun _ q => q.elim) (fun _ q => q) (fun k q => by rcases q with q | q; exact Or.inl q; exact Or.inr (Or.inl q)) (fun _ q => q)
    obtain ⟨Sm2, hSm2⟩ : ∃ Sm2, Sm2 = pI (pI Sm1 2 m x) 0 15 (m + 1) := ⟨_, rfl⟩
    have f2 : FrT smM kY Sm Sm2 := by rw [hSm2]; exact (FrT.wI (i := 2) (A := smM) up rfl (by decide)).w (Or.inr (Or.inr rfl))
    have mM := r7_num (M0 := M0) (M + 1) R.2.1 ⟨h0, by omega⟩ a2 e15
    rw [← hSm2] at mM
    have g8 : Sm2.1 0 8 = Sm1.1 0 8 := by rw [hSm2, pI_idx (by decide), pI_cell (by decide)]
    have fA : Fr smA Sc Sc1 := a3.fr (Or.inl rfl)
    rcases a6 with ⟨_, rfl, c3, e, he, J1⟩ | ⟨_, rfl, hq, jc, jm⟩
    · -- a number was read
      have he1 := J1.2.2.1
      have be := bk_in (t := t) he1.1 he1.2
      obtain ⟨Sc2, hSc2⟩ : ∃ Sc2, Sc2 = pI (pI Sc1 55 m x) 54 1 (m + 1) := ⟨_, rfl⟩
      have J2 : JT Sc2 Sm2 L t e := by
        rw [hSc2, hSm2]
        exact ((J1.m (Sm' := pI Sm1 2 m x) (pI_row (by decide)) (pI_row (by decide)) rfl).mE (Sm' := pI (pI Sm1 2 m x) 0 15 (m + 1)) (fun k hk => pI_idx (by omega)) (pI_row (by decide)) rfl).c (fun j hj => by rw [pI_row (by omega), pI_row (by omega)])
      obtain ⟨Sc3, b1, b2, b3⟩ := skip_of (N + 1) J2.1 J2.2.2.2.1 he1.1 he1.2 (by omega)
      obtain ⟨f', hf'⟩ : ∃ f', f' = bk t L e := ⟨_, rfl⟩
      have bb : bk t L f' = f' := by rw [hf']; exact bk_bk he1.1 he1.2
      rw [← hf'] at b2 be
      have J3 : JT Sc3 Sm2 L t f' := ⟨J2.1.r b3, J2.2.1, by omega, b2, by rw [b3.2.2 2 (by decide)]; exact J2.2.2.2.2.1, by rw [bb, hf']; exact J2.2.2.2.2.2.1, J2.2.2.2.2.2.2⟩
      have fS : Fr smA Sc Sc2 := by rw [hSc2]; exact (fA.pI (Or.inr (Or.inr rfl))).pI (Or.inr (Or.inl rfl))
      have fS3 : Fr smA Sc Sc3 := fS.trans (b3.fr (A := smA) (Or.inl rfl)) (fun _ q => q) (fun _ q => q)
      have k542 : Sc3.1 54 2 = Sc.1 54 2 := by rw [b3.2.1 54 (by decide), hSc2, pI_idx (by decide), pI_cell (by decide), a3.2.1 54 (by decide)]
      have k16 : Sc3.1 1 6 = Sc.1 1 6 := by rw [b3.2.2 6 (by decide), hSc2, pI_cell (by decide), pI_cell (by decide), a3.2.2 6 (by decide)]
      have k17 : Sc3.1 1 7 = Sc.1 1 7 := by rw [b3.2.2 7 (by decide), hSc2, pI_cell (by decide), pI_cell (by decide), a3.2.2 7 (by decide)]
      have R3 : SmR Sc3 Sm2 (m + 1) := by
        have eS : ∀ i, Sc3.1 55 i = (pI Sc1 55 m x).1 55 i := fun i => by rw [b3.2.1 55 (by decide), hSc2, pI_row (by decide)]
        have eM : ∀ i, Sm2.1 2 i = (pI Sm1 2 m x).1 2 i := fun i => by rw [hSm2, pI_row (by decide)]
        refine ⟨by rw [b3.2.1 54 (by decide), hSc2, pI_eq], by rw [hSm2, pI_eq], fun i x1 x2 => ?_⟩
        rw [eS, eM]
        by_cases g : i = m
        · rw [g, pI_eq, pI_eq]; exact ⟨rfl, a5⟩
        · rw [pI_idx g, pI_idx g, (a4.1 2 (by decide) (fun q => q)).1, a3.2.1 55 (by decide)]
          exact R.2.2 i x1 (by omega)
      have mC : ∀ y, f_X9_isDigit (N + 1) Sc3 2 f' = some (y, Sc3) → f_X6_readSamples_4 1 54 (f_X6_readSamples_66 1 54 N0) (N + 2) 1 m Sc = f_X6_readSamples_4 1 54 (f_X6_readSamples_66 1 54 N0) (N + 1) y (m + 1) Sc3 := fun y hy => by
        rw [f_X6_readSamples_4, cI_of (by omega) (by omega) (by omega) (by omega), if_neg (by decide), cI_of (by omega) (by omega) (by omega) (by omega), if_neg (by omega), a1, bI_of, cI_of (by omega) (by omega) (by omega) (by omega), if_neg (by decide)]
        unfold gI
        dsimp only
        rw [c3, sI_of (by omega) (by omega)]
        unfold uI
        rw [← hSc2]
        dsimp only
        rw [b1, bV_of, b2, show (1 + 1 : Nat) = 2 from rfl, hy, bI_of]
      have tk := J3.2.2.2.2.2.1
      rw [bb] at tk
      have e8 := J3.2.2.2.2.2.2
      have x4 := tk.x
      have h15 : Sm2.1 0 15 = m + 1 := R3.2.1
      obtain ⟨r, Sc4, x', Sm4, d1, d2, d3, d4, d5, d6⟩ := num_both N (M + 1) J3 (hi := 999) (by omega) (by omega) (by omega)
      rcases Tok_num0 (hi := 999) tk (by omega) with ⟨ok, t4, t10, t6, t3⟩ | ⟨ok, hbad⟩
      · -- both go on
        have dg : f' < L ∧ isDg (t f') := by
          by_cases q : f' < L ∧ isDg (t f')
          · exact q
          · obtain ⟨z1, z2, z3⟩ := nm_pos (t := t) (L := L) (f := f') (lo := 0) (Int.le_refl 0)
            have := ok.1
            rw [z1, z2, de_no (by omega) q] at this; omega
        obtain ⟨r', Sc', Sm', i1, i2, i3, i4, i5, i6, i7, i8⟩ := ih (N + 1) (M + 2) (m + 1) f' Sc3 Sm2 (by omega) (by omega) (by omega) (by omega) J3 R3 (fun _ => bb)
        refine ⟨r', Sc', Sm', (mC 1 (isDigit_y (N + 1) J3.1 (by omega) dg.1 dg.2)).trans i1, ?_, fS3.trans i3 (fun _ q => q) (fun _ q => q), by rw [i4]; exact k542, by rw [i5]; exact k16, by rw [i6]; exact k17, f2.trans i7 (fun _ q => q) (fun _ q => q) (fun _ q => q) (fun _ q => q), ?_⟩
        · rw [mM, r54_2 (M + 1) e8 t4]; exact i2
        · rcases i8 with i8 | ⟨i9, e', i10, i11⟩
          · exact Or.inl i8
          · exact Or.inr ⟨i9, e', by omega, i11⟩
      · -- no more numbers
        have mbad : (Sm2.1 0 4 = 2 ∨ Sm2.1 0 4 = 4) → ∃ Sm', f_X11_readSamples_7 (f_X11_readSamples_79 M0) (M + 2 + 1) 1 Sm = some Sm' ∧ FrT smM kY Sm Sm' ∧ Sm'.1 0 8 = f' := fun h4 => by
          rcases h4 with h4 | h4
          · by_cases g48 : m + 1 = 48
            · exact ⟨_, by rw [mM, r54_2 (M + 1) e8 h4]; exact r7_48 M tk hL.2 e8 (by rw [h15]; exact g48), f2.w (Or.inl (by omega)), pI_eq⟩
            · rcases d6 with ⟨z, _⟩ | ⟨_, _, hq, jc, jm⟩
              · rw [bb] at z; exact absurd z ok
              · rw [bb] at hq jc jm
                have u15 : Sm4.1 0 15 = m + 1 := by rw [d4.2.1 15 (by decide)]; exact h15
                have f4 : FrT smM kY Sm Sm4 := f2.trans d4 (fun _ q => q) (fun _ q => q.elim) (fun _ q => q) (fun k q => by rcases q with q | q; exact Or.inl q; exact Or.inr (Or.inl q))
                refine ⟨pI (pI Sm4 2 (m + 1) x') 0 15 (m + 1 + 1), ?_, (FrT.wI (i := 2) (A := smM) f4 rfl (by decide)).w (Or.inr (Or.inr rfl)), by rw [pI_idx (by decide), pI_cell (by decide)]; exact jm⟩
                rw [mM, r54_2 (M + 1) e8 h4, r7_num (M0 := M0) M h15 (by omega) d2 u15]
                exact r54_w M (q := f') (by omega) (by rw [pI_idx (by decide), pI_cell (by decide)]; exact jm)
          · exact ⟨_, by rw [mM, r54_n (M + 1) tk e8 (by omega)]; exact r79_b M0 tk e8 h4, f2.w (Or.inl (by omega)), pI_eq⟩
        by_cases dg : f' < L ∧ isDg (t f')
        · have h4 : Sm2.1 0 4 = 2 ∨ Sm2.1 0 4 = 4 := by
            have dd := dg.2
            unfold isDg at dd
            rcases tk.2.2 with ⟨g, c⟩ | ⟨g, c, _⟩ | ⟨g, _, ⟨_, c, _⟩ | ⟨_, c⟩⟩ | ⟨g, c, _⟩ | ⟨g, c⟩
            · omega
            · have := g.2; unfold isLt at this; omega
            · exact Or.inl c
            · exact Or.inr c
            · omega
            · exact Or.inr c
          obtain ⟨Sm', m1, m2, m3⟩ := mbad h4
          have hC := mC 1 (isDigit_y (N + 1) J3.1 (by omega) dg.1 dg.2)
          by_cases g48 : m + 1 = 48
          · refine ⟨0, pI Sc3 1 2 f', Sm', ?_, m1, fS3.pI (Or.inl rfl), by rw [pI_cell (by decide)]; exact k542, by rw [pI_idx (by decide)]; exact k16, by rw [pI_idx (by decide)]; exact k17, m2, Or.inl ⟨rfl, f', by omega, pI_eq, m3⟩⟩
            rw [hC, g48]
            exact c4_48 N b2
          · rcases d6 with ⟨z, _⟩ | ⟨_, z, hq, jc, jm⟩
            · rw [bb] at z; exact absurd z ok
            · rw [z] at d1
              rw [bb] at jc
              exact ⟨0, Sc4, Sm', hC.trans (c4_bad N (by omega) d1), m1, fS3.trans (d3.fr (A := smA) (Or.inl rfl)) (fun _ q => q) (fun _ q => q), by rw [d3.2.1 54 (by decide)]; exact k542, by rw [d3.2.2 6 (by decide)]; exact k16, by rw [d3.2.2 7 (by decide)]; exact k17, m2, Or.inl ⟨rfl, f', by omega, jc, m3⟩⟩
        · have nd : ¬ isDg (chT t L f') := fun q => by
            by_cases g : 0 ≤ f' ∧ f' < L
            · rw [chT_at g.1 g.2] at q; exact dg ⟨g.2, q⟩
            · unfold chT at q; rw [if_neg g] at q; unfold isDg at q; omega
          have hC := (mC 0 (isDigit_n (N + 1) J3.1 (by omega) (by omega) nd)).trans (c4_0 N)
          by_cases h4 : Sm2.1 0 4 = 2 ∨ Sm2.1 0 4 = 4
          · obtain ⟨Sm', m1, m2, m3⟩ := mbad h4
            have tt : f' < L ∧ t f' ≠ 59 := by
              rcases Tok_3 tk with ⟨z, _⟩ | ⟨z, _⟩ | ⟨_, _, z⟩
              · omega
              · omega
              · exact z
            exact ⟨1, Sc3, Sm', hC, m1, fS3, k542, k16, k17, m2, Or.inr ⟨rfl, f', by omega, Or.inr ⟨J3.1, by omega, b2, J3.2.2.2.2.1, by rw [bb]; exact tt.1, by rw [bb]; exact tt.2, by rw [bb]; exact m3⟩⟩⟩
          · exact ⟨1, Sc3, Sm2, hC, by rw [mM, r54_n (M + 1) tk e8 (fun q => h4 (Or.inl q))]; exact r79_n M0 tk e8 (fun q => h4 (Or.inr q)), fS3, k542, k16, k17, f2, Or.inr ⟨rfl, f', by omega, Or.inl ⟨m + 1, by omega, J3, R3⟩⟩⟩
    · -- none was read
      have g : Sm2.1 0 8 = bk t L p := g8.trans jm
      exact ⟨0, Sc1, Sm2, c4_bad (N + 1) (by omega) a1, mM.trans (r54_w (M + 1) (q := bk t L p) (by omega) g), fA, by rw [a3.2.1 54 (by decide)], by rw [a3.2.2 6 (by decide)], by rw [a3.2.2 7 (by decide)], f2, Or.inl ⟨rfl, bk t L p, hq, jc, g⟩⟩
end SAMPLES
