/-! texts: a trace on both sides -/
section RTRACE
variable {S Sc Sm : S2} {L p f n nl : Int} {t : Int → Int}
theorem trace_loop {N0 M0 : Nat} : ∀ (d N M g : Nat) (p x4 : Int) (Sc Sm : S2), L - p < d → 1000 + d ≤ N → 1000 + d ≤ M → 0 ≤ x4 → 2 * x4 ≤ p → JT Sc Sm L t p → TRd Sc Sm g → ∃ q Sc' Sm', f_X6_readTrace_29 1 54 70 (f_X6_readTrace_70 1 54 70 N0) N 1 x4 Sc = some (q, Sc') ∧ f_X11_readTrace_23 (f_X11_readTrace_66 M0) M (g : Int) 1 Sm = some (q, Sm') ∧ Fr trA Sc Sc' ∧ Bt Sc Sc' ∧ FrT trM kX Sm Sm' ∧ (-1 ≤ q ∧ q ≤ 400) ∧ (q = -1 → ∃ g', TRd Sc' Sm' g' ∧ g' % 2 = 1) := by
  intro d
  induction d with
  | zero =>
    intro N M g p x4 Sc Sm hd hN hM h4 h5 J T
    have hp := J.2.2.1
    omega
  | succ d ih =>
    intro N M g p x4 Sc Sm hd hN hM h4 h5 J T
    obtain ⟨N, rfl⟩ : ∃ N', N = N' + 2 := ⟨N - 2, by omega⟩
    obtain ⟨M, rfl⟩ : ∃ M', M = M' + 2 := ⟨M - 2, by omega⟩
    have hL := J.1.1
    have hp := J.2.2.1
    obtain ⟨r, Sc1, g', Sm1, a1, a2, a3, aB, a4, a5⟩ := clause_both (N + 1) (M + 1) J T (by omega) (by omega)
    have stopC : ∀ (q : Int) (S : S2), S.1 1 2 = q → 0 ≤ q → q ≤ 400 → f_X6_readTrace_62 1 54 70 (f_X6_readTrace_29 1 54 70 (f_X6_readTrace_70 1 54 70 N0) (N + 1)) (N + 1) x4 S = some (q, S) := fun q S hq q0 q4 => by
      unfold f_X6_readTrace_62 f_X6_readTrace_63
      rw [f_X6_readTrace_29, cI_of (by omega) (by omega) (by omega) (by omega), if_pos rfl]
      unfold f_X6_readTrace_70 f_X6_readTrace_96 gI
      dsimp only
      rw [hq, cI_of (by omega) (by omega) (by omega) (by omega), if_neg (by omega)]; rfl
    have stopM : ∀ (S : S2) (x : Int), f_X11_readTrace_53 (f_X11_readTrace_23 (f_X11_readTrace_66 M0) (M + 1)) (M + 1) x S = f_X11_readTrace_66 M0 x S := fun S x => by
      unfold f_X11_readTrace_53 f_X11_readTrace_54
      rw [cI_of (by omega) (by omega) (by omega) (by omega), if_pos rfl, f_X11_readTrace_23, cI_of (by omega) (by omega) (by omega) (by omega), if_pos rfl]
    have m66w : ∀ (S : S2) (x q : Int), S.1 0 8 = q → 0 ≤ q → q ≤ 400 → f_X11_readTrace_66 M0 x S = some (q, S) := fun S x q hq q0 q4 => by
      unfold f_X11_readTrace_66 f_X11_readTrace_93 gI
      dsimp only
      rw [hq, cI_of (by omega) (by omega) (by omega) (by omega), if_neg (by omega)]; rfl
    have mM : f_X11_readTrace_23 (f_X11_readTrace_66 M0) (M + 2) (g : Int) 1 Sm = gI Sm1 0 8 fun v34 => cI v34 (-1) (if v34 = (-1) then gI Sm1 0 4 fun v42 => cI v42 3 (if v42 = 3 then (f_X11_readTrace_54 (f_X11_readTrace_23 (f_X11_readTrace_66 M0) (M + 1)) (M + 1)) ((g' : Nat) : Int) 1 Sm1 else (f_X11_readTrace_53 (f_X11_readTrace_23 (f_X11_readTrace_66 M0) (M + 1)) (M + 1)) ((g' : Nat) : Int) Sm1) else (f_X11_readTrace_53 (f_X11_readTrace_23 (f_X11_readTrace_66 M0) (M + 1)) (M + 1)) ((g' : Nat) : Int) Sm1) := by
      rw [f_X11_readTrace_23, cI_of (by omega) (by omega) (by omega) (by omega), if_neg (by decide), a2, bI_of]
    have mC : f_X6_readTrace_29 1 54 70 (f_X6_readTrace_70 1 54 70 N0) (N + 2) 1 x4 Sc = cI r 0 (if r = 0 then (f_X6_readTrace_62 1 54 70 (f_X6_readTrace_29 1 54 70 (f_X6_readTrace_70 1 54 70 N0) (N + 1)) (N + 1)) x4 Sc1 else bI (f_X6_readSemicolon (N + 1) Sc1 1 1) fun v52 S52 => cI v52 0 (if v52 = 0 then (f_X6_readTrace_62 1 54 70 (f_X6_readTrace_29 1 54 70 (f_X6_readTrace_70 1 54 70 N0) (N + 1)) (N + 1)) x4 S52 else (f_X6_readTrace_63 1 54 70 (f_X6_readTrace_29 1 54 70 (f_X6_readTrace_70 1 54 70 N0) (N + 1)) (N + 1)) x4 1 S52)) := by
      rw [f_X6_readTrace_29, cI_of (by omega) (by omega) (by omega) (by omega), if_neg (by decide), cI_of (by omega) (by omega) (by omega) (by omega), if_neg (by omega), a1, bI_of]
    rw [mC, mM]
    unfold gI
    dsimp only
    rcases a5 with ⟨rfl, q, hq, jc, jm⟩ | ⟨rfl, e, he, ⟨J1, T1⟩ | je⟩
    · refine ⟨q, Sc1, Sm1, ?_, ?_, a3, aB, a4, by omega, fun h => by omega⟩
      · rw [cI_of (by omega) (by omega) (by omega) (by omega), if_pos rfl, stopC q Sc1 jc (by omega) (by omega)]
      · rw [jm, cI_of (by omega) (by omega) (by omega) (by omega), if_neg (by omega), stopM, m66w Sm1 _ q jm (by omega) (by omega)]
    · have h1 := J1.2.2.1
      have tk := J1.2.2.2.2.2.1
      have e8 := J1.2.2.2.2.2.2
      have x0 := tk.x
      have be := bk_in (t := t) h1.1 h1.2
      have hg' := T1.1
      obtain ⟨r, Sc2, s1, s2, s3⟩ := semi_both (N + 1) J1 (m := 1) (Or.inr rfl) (by omega)
      have fS : Fr trA Sc Sc2 := a3.trans (s2.fr (A := trA) (Or.inl rfl)) (fun _ q => q) (fun _ q => q)
      have bS : Bt Sc Sc2 := aB.trans (Bt.of (s2.2.1 74 (by decide)))
      have T2 : ∀ S, FrR (fun k => k = 1 ∨ k = 2) Sc1 S → ∀ S' , FrT no0 kB Sm1 S' → TRd S S' g' := fun S h S' h' => by
        obtain ⟨t1, t2, t3, t4, t5, t6, nl, t7⟩ := T1
        refine ⟨t1, by rw [h.2.2 6 (by decide)]; exact t2, by rw [h.2.2 7 (by decide)]; exact t3, ?_, by rw [h'.2.1 17 (by decide), h.2.1 54 (by decide)]; exact t5, by rw [h'.2.1 18 (by decide), h.2.1 70 (by decide)]; exact t6, nl, t7.keep (by rw [h.2.1 70 (by decide)]) (h.2.1 71 (by decide)) (h.2.1 72 (by decide)) (h.2.1 74 (by decide)) (h'.2.1 16 (by decide)) (h'.1 3 (by decide) (fun q => q)).1 (h'.1 4 (by decide) (fun q => q)).1 (h'.1 5 (by decide) (fun q => q)).2⟩
        rcases t4 with ⟨y, z⟩ | ⟨y, m, z, v⟩
        · exact Or.inl ⟨y, by rw [h.2.1 54 (by decide)]; exact z⟩
        · exact Or.inr ⟨y, m, z, v.keep (by rw [h.2.1 54 (by decide)]) (h.2.1 55 (by decide)) (h'.2.1 15 (by decide)) (h'.1 2 (by decide) (fun q => q)).1⟩
      have cS : (cI 1 0 (if (1 : Int) = 0 then (f_X6_readTrace_62 1 54 70 (f_X6_readTrace_29 1 54 70 (f_X6_readTrace_70 1 54 70 N0) (N + 1)) (N + 1)) x4 Sc1 else bI (f_X6_readSemicolon (N + 1) Sc1 1 1) fun v52 S52 => cI v52 0 (if v52 = 0 then (f_X6_readTrace_62 1 54 70 (f_X6_readTrace_29 1 54 70 (f_X6_readTrace_70 1 54 70 N0) (N + 1)) (N + 1)) x4 S52 else (f_X6_readTrace_63 1 54 70 (f_X6_readTrace_29 1 54 70 (f_X6_readTrace_70 1 54 70 N0) (N + 1)) (N + 1)) x4 1 S52))) = cI r 0 (if r = 0 then (f_X6_readTrace_62 1 54 70 (f_X6_readTrace_29 1 54 70 (f_X6_readTrace_70 1 54 70 N0) (N + 1)) (N + 1)) x4 Sc2 else f_X6_readTrace_29 1 54 70 (f_X6_readTrace_70 1 54 70 N0) (N + 1) 1 (x4 + 1) Sc2) := by
        rw [cI_of (by omega) (by omega) (by omega) (by omega), if_neg (by decide), s1, bI_of]
        rfl
      rw [cS, e8, cI_of (x := -1) (y := -1) (by decide) (by decide) (by decide) (by decide), if_pos rfl]
      have m66b : Sm1.1 0 4 ≠ 0 → f_X11_readTrace_66 M0 ((g' : Nat) : Int) Sm1 = some (bk t L e, pI Sm1 0 8 (bk t L e)) := fun h => by
        unfold f_X11_readTrace_66 f_X11_readTrace_89 f_X11_readTrace_93 gI
        dsimp only
        rw [e8, cI_of (by omega) (by omega) (by omega) (by omega), if_pos rfl, cI_of (by omega) (by omega) (by omega) (by omega), if_neg h, bad_of M0 e8 tk.1, bV_of, pI_eq]; rfl
      rcases s3 with ⟨rfl, s4, s5⟩ | ⟨rfl, _, s5, s6, e', s7, s8, s9⟩ | ⟨rfl, s4, s5, s6⟩
      · -- the end of the text
        have hh := hasT_of (S := Sm1) M0 hg' (i := 0) (by decide)
        have eL : L ≤ bk t L e := by
          rcases Tok_3 tk with ⟨_, z⟩ | ⟨z, _⟩ | ⟨z, _⟩
          · exact z
          · omega
          · exact absurd s4 z
        have c70 : f_X6_readTrace_62 1 54 70 (f_X6_readTrace_29 1 54 70 (f_X6_readTrace_70 1 54 70 N0) (N + 1)) (N + 1) x4 Sc2 = cI (Sc2.1 54 1) 0 (if Sc2.1 54 1 = 0 then uI Sc2 1 2 (Sc2.1 2 1) fun S93 => (f_X6_readTrace_96 1 54 70 N0) S93 else (f_X6_readTrace_96 1 54 70 N0) Sc2) := by
          unfold f_X6_readTrace_62 f_X6_readTrace_63
          rw [f_X6_readTrace_29, cI_of (by omega) (by omega) (by omega) (by omega), if_pos rfl]
          unfold f_X6_readTrace_70 gI
          dsimp only
          rw [s5, cI_of (by omega) (by omega) (by omega) (by omega), if_pos rfl]
        have m66 : f_X11_readTrace_66 M0 ((g' : Nat) : Int) Sm1 = cI ((g' / 2 ^ 0 % 2 : Nat) : Int) 0 (if ((g' / 2 ^ 0 % 2 : Nat) : Int) = 0 then (f_X11_readTrace_89 M0) Sm1 else (f_X11_readTrace_93 M0) Sm1) := by
          unfold f_X11_readTrace_66 gI
          dsimp only
          rw [e8, cI_of (by omega) (by omega) (by omega) (by omega), if_pos rfl, s4, cI_of (by omega) (by omega) (by omega) (by omega), if_pos rfl]
          show bI (f_X11_has M0 Sm1 ((g' : Nat) : Int) ((0 : Nat) : Int)) _ = _
          rw [hh, bI_of]
        have T3 := T2 Sc2 s2 Sm1 FrT.refl
        rcases T1.2.2.2.1 with ⟨y, z⟩ | ⟨y, m, z, v⟩
        · refine ⟨bk t L e, pI Sc2 1 2 (bk t L e), pI Sm1 0 8 (bk t L e), ?_, ?_, fS.pI (Or.inl rfl), bS.trans (Bt.of (pI_row (by decide))), a4.w (Or.inl (by omega)), by omega, fun h => by omega⟩
          · rw [cI_of (by omega) (by omega) (by omega) (by omega), if_pos rfl, c70, s2.2.1 54 (by decide), z, cI_of (by omega) (by omega) (by omega) (by omega), if_pos rfl, s2.2.1 2 (by decide), J1.1.2.1]
            unfold f_X6_readTrace_96 uI gI
            dsimp only
            rw [show bk t L e = L by omega, pI_eq]; rfl
          · rw [s4, cI_of (by omega) (by omega) (by omega) (by omega), if_neg (by decide), stopM, m66, cI_of (by omega) (by omega) (by omega) (by omega), if_pos (by omega)]
            unfold f_X11_readTrace_89 f_X11_readTrace_93 gI
            dsimp only
            rw [bad_of M0 e8 tk.1, bV_of, pI_eq]; rfl
        · have q1 : Sc2.1 54 1 = m := by rw [s2.2.1 54 (by decide)]; exact v.1
          refine ⟨-1, Sc2, Sm1, ?_, ?_, fS, bS, a4, by omega, fun _ => ⟨g', T3, y⟩⟩
          · rw [cI_of (by omega) (by omega) (by omega) (by omega), if_pos rfl, c70, q1, cI_of (by omega) (by omega) (by omega) (by omega), if_neg (by omega)]
            unfold f_X6_readTrace_96 gI
            dsimp only
            rw [s5]; rfl
          · rw [s4, cI_of (by omega) (by omega) (by omega) (by omega), if_neg (by decide), stopM, m66, cI_of (by omega) (by omega) (by omega) (by omega), if_neg (by omega)]
            unfold f_X11_readTrace_93 gI
            dsimp only
            rw [e8]; rfl
      · -- a ;
        obtain ⟨Sm3, n1, n2, n3, n4⟩ := nextJ (M + 1) J1.2.1 s9 (by omega) s7.2 (by omega)
        have J3 : JT Sc2 Sm3 L t e' := ⟨J1.1.r s2, J1.2.1.r n2 (fun q => q) (by decide), by omega, s8, s6, n3, n4.trans e8⟩
        obtain ⟨q, Sc', Sm', i1, i2, i3, iB, i4, i5, i6⟩ := ih (N + 1) (M + 1) g' e' (x4 + 1) Sc2 Sm3 (by omega) (by omega) (by omega) (by omega) (by omega) J3 (T2 Sc2 s2 Sm3 n2)
        refine ⟨q, Sc', Sm', ?_, ?_, fS.trans i3 (fun _ q => q) (fun _ q => q), bS.trans iB, a4.trans (n2.trans i4 (fun _ q => q.elim) (fun _ q => q) (fun k q => by rcases q with q | q; exact Or.inl q; exact Or.inr (Or.inl q)) (fun _ q => q) (A'' := trM) (F'' := kX)) (fun _ q => q) (fun _ q => q) (fun _ q => q) (fun _ q => q), i5, i6⟩
        · rw [cI_of (by omega) (by omega) (by omega) (by omega), if_neg (by decide)]; exact i1
        · rw [s5, cI_of (by omega) (by omega) (by omega) (by omega), if_pos rfl]
          unfold f_X11_readTrace_54
          rw [cI_of (by omega) (by omega) (by omega) (by omega), if_neg (by decide), n1, bV_of]; exact i2
      · -- a fault
        refine ⟨bk t L e, Sc2, pI Sm1 0 8 (bk t L e), ?_, ?_, fS, bS, a4.w (Or.inl (by omega)), by omega, fun q => by omega⟩
        · rw [cI_of (by omega) (by omega) (by omega) (by omega), if_pos rfl, stopC _ Sc2 s6 (by omega) (by omega)]
        · rw [cI_of (by omega) (by omega) (by omega) (by omega), if_neg (fun q => by have := s5 q; omega), stopM, m66b s4]
    · obtain ⟨hc, h1, e1, e2, k1, k2, k3⟩ := je
      have be := bk_in (t := t) h1.1 h1.2
      obtain ⟨r, Sc2, s1, s2, s3⟩ := readSemiC (N + 1) hc e1 h1.1 h1.2 (m := 1) (Or.inr rfl) (by omega)
      have fS : Fr trA Sc Sc2 := a3.trans (s2.fr (A := trA) (Or.inl rfl)) (fun _ q => q) (fun _ q => q)
      have bS : Bt Sc Sc2 := aB.trans (Bt.of (s2.2.1 74 (by decide)))
      rcases s3 with ⟨z, _⟩ | ⟨_, z, _⟩ | ⟨_, _, rfl, s4⟩
      · omega
      · exact absurd z k2
      · refine ⟨bk t L e, Sc2, Sm1, ?_, ?_, fS, bS, a4, by omega, fun q => by omega⟩
        · rw [cI_of (by omega) (by omega) (by omega) (by omega), if_neg (by decide), s1, bI_of, cI_of (by omega) (by omega) (by omega) (by omega), if_pos rfl, stopC _ Sc2 s4 (by omega) (by omega)]
        · rw [k3, cI_of (by omega) (by omega) (by omega) (by omega), if_neg (by omega), stopM, m66w Sm1 _ _ k3 (by omega) (by omega)]
/-- a text read as a trace, on both sides -/
theorem readTrace_both (N M : Nat) (T : TapeR Sc Sm) (hN : 1500 ≤ N) (hM : 1500 ≤ M) : ∃ q Sc' Sm', f_X6_readTrace N Sc 1 54 70 = some (q, Sc') ∧ f_X11_readTrace M Sm = some (q, Sm') ∧ Fr trA Sc Sc' ∧ Bt Sc Sc' ∧ FrT trM kX Sm Sm' ∧ (-1 ≤ q ∧ q ≤ 400) ∧ (q = -1 → ∃ g', TRd Sc' Sm' g' ∧ g' % 2 = 1) := by
  obtain ⟨Sc1, Sm1, a1, a2, a3, a4, a5, a6, a7⟩ := begin_both N M T (by omega)
  have hL := a5.1.1
  obtain ⟨Sc2, hSc2⟩ : ∃ Sc2, Sc2 = pI (pI (pI (pI Sc1 54 1 0) 54 2 0) 70 0 0) 70 1 1 := ⟨_, rfl⟩
  obtain ⟨Sm2, hSm2⟩ : ∃ Sm2, Sm2 = pI (pI (pI Sm1 0 16 0) 0 17 0) 0 18 1 := ⟨_, rfl⟩
  have fc : Fr trA Sc Sc2 := by
    rw [hSc2]
    exact ((((a3.mono (C := trA) (fun _ q => Or.inl q)).pI (by decide)).pI (by decide)).pI (by decide)).pI (by decide)
  have fm : FrT trM kX Sm Sm2 := by
    rw [hSm2]
    exact (((a4.trans FrT.refl (fun _ q => q.elim) (fun _ q => q) (fun k q => by rcases q with q | q; exact Or.inl q; exact Or.inr (Or.inl q)) (fun _ q => q) (A'' := trM) (F'' := kX)).w (Or.inr (Or.inr (by omega)))).w (Or.inr (Or.inr (by omega)))).w (Or.inr (Or.inr (by omega)))
  have J : JT Sc2 Sm2 (Sc.1 2 1) (Sc.1 3) 0 := by
    have w0 : ∀ k : Int, ((2 ≤ k ∧ k ≤ 8) ∨ k = 10) → Sm2.1 0 k = Sm1.1 0 k := fun k hk => by rw [hSm2, pI_idx (by omega), pI_idx (by omega), pI_idx (by omega)]
    have w1 : Sm2.1 1 = Sm1.1 1 := by rw [hSm2, pI_row (by decide), pI_row (by decide), pI_row (by decide)]
    have w2 : Sm2.2 0 9 = Sm1.2 0 9 := by rw [hSm2]; rfl
    have w3 : ∀ j, (1 ≤ j ∧ j ≤ 3) → Sc2.1 j = Sc1.1 j := fun j hj => by rw [hSc2, pI_row (by omega), pI_row (by omega), pI_row (by omega), pI_row (by omega)]
    exact (a5.mE w0 w1 w2).c w3
  have T0 : TRd Sc2 Sm2 0 := by
    have z1 : Sc2.1 1 = Sc1.1 1 := by rw [hSc2, pI_row (by decide), pI_row (by decide), pI_row (by decide), pI_row (by decide)]
    have z2 : Sc2.1 54 1 = 0 := by rw [hSc2, pI_row (by decide), pI_row (by decide), pI_idx (by decide), pI_eq]
    have z3 : Sc2.1 54 2 = 0 := by rw [hSc2, pI_row (by decide), pI_row (by decide), pI_eq]
    have z4 : Sc2.1 70 0 = 0 := by rw [hSc2, pI_idx (by decide), pI_eq]
    have z5 : Sc2.1 70 1 = 1 := by rw [hSc2, pI_eq]
    have y1 : Sm2.1 0 16 = 0 := by rw [hSm2, pI_idx (by decide), pI_idx (by decide), pI_eq]
    have y2 : Sm2.1 0 17 = 0 := by rw [hSm2, pI_idx (by decide), pI_eq]
    have y3 : Sm2.1 0 18 = 1 := by rw [hSm2, pI_eq]
    refine ⟨by decide, by rw [z1]; exact a6, by rw [z1]; exact a7, Or.inl ⟨rfl, z2⟩, by rw [y2, z3]; decide, by rw [y3, z5]; decide, 0, by decide, z4, y1, fun i x y => by omega⟩
  obtain ⟨q, Sc', Sm', b1, b2, b3, bB, b4, b5, b6⟩ := trace_loop (N0 := N) (M0 := M) 401 N M 0 0 0 Sc2 Sm2 (by omega) (by omega) (by omega) (by omega) (by omega) J T0
  refine ⟨q, Sc', Sm', ?_, ?_, fc.trans b3 (fun _ q => q) (fun _ q => q), (Bt.of (by rw [hSc2, pI_row (by decide), pI_row (by decide), pI_row (by decide), pI_row (by decide), a3.2 74 (by decide)])).trans bB, fm.trans b4 (fun _ q => q) (fun _ q => q) (fun _ q => q) (fun _ q => q), b5, b6⟩
  · unfold f_X6_readTrace
    rw [a1, bV_of]
    unfold uI
    dsimp only
    rw [← hSc2]
    exact b1
  · unfold f_X11_readTrace
    rw [a2, bV_of]
    unfold uI
    dsimp only
    rw [← hSm2]
    exact b2
theorem readScript_both (N M : Nat) (T : TapeR Sc Sm) (hn : 0 ≤ n ∧ n ≤ 4) (hN : 1500 ≤ N) (hM : 1500 ≤ M) : ∃ q Sc' Sm', f_X6_readScript N Sc 1 75 = some (q, Sc') ∧ f_X11_readScript M Sm n = some (q, Sm') ∧ Fr scA Sc Sc' ∧ FrT r67 kB Sm Sm' ∧ (∀ i, i < 36 * n → Sm'.1 6 i = Sm.1 6 i) ∧ (∀ i, i ≠ n → Sm'.1 7 i = Sm.1 7 i) ∧ (-1 ≤ q ∧ q ≤ 400) ∧ (q = -1 → ∃ k', (1 ≤ k' ∧ k' ≤ 12) ∧ DS Sc' Sm' n k') := by
  obtain ⟨Sc1, Sm1, a1, a2, a3, a4, a5, a6, a7⟩ := begin_both N M T (by omega)
  have hL := a5.1.1
  have J : JT (pI Sc1 75 0 0) (pI Sm1 7 n 0) (Sc.1 2 1) (Sc.1 3) 0 := (a5.m (pI_row (by decide)) (pI_row (by decide)) rfl).c (fun j hj => pI_row (by omega))
  obtain ⟨q, Sc', Sm', b1, b2, b3, b4, b5, b6, b7, b8⟩ := script_loop (N0 := N) (M0 := M) hn 12 N M 0 0 (pI Sc1 75 0 0) (pI Sm1 7 n 0) (by omega) (by omega) (by omega) (by omega) (by omega) J ⟨pI_eq, pI_eq, fun i x y => by omega⟩
  have fm : FrT r67 kB Sm (pI Sm1 7 n 0) := FrT.wI (i := 7) (A := r67) (a4.trans FrT.refl (fun _ q => q.elim) (fun _ q => q) (fun _ q => q) (fun _ q => q)) (Or.inr rfl) (by decide)
  refine ⟨q, Sc', Sm', ?_, ?_, ((a3.mono (C := scA) (fun _ q => Or.inl q)).pI (by decide)).trans b3 (fun _ q => q) (fun _ q => q), fm.trans b4 (fun _ q => q) (fun _ q => q) (fun _ q => q) (fun _ q => q), fun i hi => by rw [b5 i hi, pI_row (by decide), (a4.1 6 (by decide) (fun q => q)).1], fun i hi => by rw [b6 i hi, pI_idx hi, (a4.1 7 (by decide) (fun q => q)).1], b7, b8⟩
  · unfold f_X6_readScript
    rw [a1, bV_of]
    exact b1
  · unfold f_X11_readScript
    rw [a2, bV_of, sI_of (by omega) (by omega)]
    exact b2
end RTRACE
