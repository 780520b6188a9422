/-! texts: line and clause on both sides -/
section CLAUSE
variable {S Sc Sm : S2} {L p f n nl : Int} {t : Int → Int}
theorem Tok_w (h : TokF S L t f) : (f < we t L f ∧ S.1 0 4 = 1 ∧ S.1 0 3 = we t L f ∧ S.1 0 7 = mn7 (we t L f - f) ∧ S.2 0 9 = wdV (fun j => t (f + j)) (mn7 (we t L f - f)).toNat) ∨ (¬ f < we t L f ∧ S.1 0 4 ≠ 1) := by
  obtain ⟨h5, hf, h⟩ := h
  have wi := we_in (t := t) hf.1 hf.2
  have sc := (scF_in (P := isLt) (t := t) (L - f).toNat f)
  have nolt : ¬ (f < L ∧ isLt (t f)) → ¬ f < we t L f := fun k q => k ⟨by omega, sc.2.1 f (by omega) q⟩
  rcases h with ⟨g, c⟩ | ⟨g, c, d⟩ | ⟨g, _, h⟩ | ⟨g, c, _⟩ | ⟨g, c⟩
  · exact Or.inr ⟨nolt (by omega), by omega⟩
  · refine Or.inl ⟨?_, c, d⟩
    by_cases q : we t L f = f
    · exact absurd g.2 (by rw [← q]; exact sc.2.2 (by show we t L f < f + _; omega))
    · omega
  · refine Or.inr ⟨nolt (fun q => g.2.1 q.2), ?_⟩
    rcases h with ⟨_, c, _⟩ | ⟨_, c⟩ <;> omega
  · exact Or.inr ⟨nolt (fun q => by have := q.2; unfold isLt at this; omega), by omega⟩
  · exact Or.inr ⟨nolt (fun q => g.2.1 q.2), by omega⟩
theorem failC (N : Nat) (e : S.1 1 4 = f) : (gI S 1 4 fun v39 => bI (f_X6_fail N S 1 v39) fun v42 S42 => rZ v42 S42) = some (0, pI S 1 2 f) := by
  unfold gI f_X6_fail uI
  dsimp only
  rw [e, rZ_of (Or.inl rfl), bI_of, rZ_of (Or.inl rfl)]
theorem lineT_both (N M : Nat) (J : JT Sc Sm L t p) (D : LnD Sc Sm nl) (h8 : nl < 8) (hN : 600 ≤ N) (hM : 600 ≤ M) : ∃ r Sc' Sm', f_X6_readLine N Sc 1 70 = some (r, Sc') ∧ f_X11_readLine M Sm = some Sm' ∧ Fr lnK Sc Sc' ∧ Bt Sc Sc' ∧ Sc'.1 70 1 = Sc.1 70 1 ∧ Sc'.1 1 6 = Sc.1 1 6 ∧ Sc'.1 1 7 = Sc.1 1 7 ∧ FrT lnN kZ Sm Sm' ∧ ((r = 0 ∧ ∃ q, JF Sc' Sm' L q) ∨ (r = 1 ∧ (∃ e, p < e ∧ JT Sc' Sm' L t e) ∧ LnD Sc' Sm' (nl + 1))) := by
  have hL := J.1.1
  have hp := J.2.2.1
  have tk := J.2.2.2.2.2.1
  have e8 := J.2.2.2.2.2.2
  have b := bk_in (t := t) hp.1 hp.2
  obtain ⟨hnl, d70, d16, dr⟩ := D
  obtain ⟨Sc1, c1, c2, c3, c4, c5, c6⟩ := readWordC N J.1 J.2.2.2.1 hp.1 hp.2 (by omega)
  obtain ⟨f, hf⟩ : ∃ f, f = bk t L p := ⟨_, rfl⟩
  rw [← hf] at c1 c2 c3 c4 c5 tk b
  have w := we_in (t := t) (L := L) (p := f) (by omega) (by omega)
  have f1 : Fr lnK Sc Sc1 := c6.fr (Or.inl rfl)
  have x4 := tk.x
  have c74' : Sc1.1 74 = Sc.1 74 := c6.2.1 74 (by decide)
  have m0 : f_X11_readLine_25 (f_X11_readLine_63 M) M 0 0 Sm = some (pI Sm 0 8 f) := by
    rw [(dup_loop (k63 := f_X11_readLine_63 M) hnl d16 nl.toNat M 0 (by omega) (by omega) (by omega)).1]
    unfold f_X11_readLine_63
    rw [cI_of (by omega) (by omega) (by omega) (by omega), if_pos rfl, bad_of M e8 tk.1]; rfl
  have ex : ∀ Sc' : S2, Fr lnK Sc Sc' → Bt Sc Sc' → Sc'.1 70 1 = Sc.1 70 1 → Sc'.1 1 6 = Sc.1 1 6 → Sc'.1 1 7 = Sc.1 1 7 → Sc'.1 1 2 = f → f_X6_readLine N Sc 1 70 = some (0, Sc') → f_X11_readLine M Sm = some (pI Sm 0 8 f) → ∃ r Sc' Sm', f_X6_readLine N Sc 1 70 = some (r, Sc') ∧ f_X11_readLine M Sm = some Sm' ∧ Fr lnK Sc Sc' ∧ Bt Sc Sc' ∧ Sc'.1 70 1 = Sc.1 70 1 ∧ Sc'.1 1 6 = Sc.1 1 6 ∧ Sc'.1 1 7 = Sc.1 1 7 ∧ FrT lnN kZ Sm Sm' ∧ ((r = 0 ∧ ∃ q, JF Sc' Sm' L q) ∨ (r = 1 ∧ (∃ e, p < e ∧ JT Sc' Sm' L t e) ∧ LnD Sc' Sm' (nl + 1))) := fun Sc' a1 aB a2 a3 a4 a5 a6 a7 => ⟨0, Sc', pI Sm 0 8 f, a6, a7, a1, aB, a2, a3, a4, FrT.refl.w (Or.inl (by omega)), Or.inl ⟨rfl, f, by omega, a5, pI_eq⟩⟩
  have k1 : Sc1.1 70 1 = Sc.1 70 1 := by rw [c6.2.1 70 (by decide)]
  have k2 : Sc1.1 1 6 = Sc.1 1 6 := c6.2.2 6 (by decide)
  have k3 : Sc1.1 1 7 = Sc.1 1 7 := c6.2.2 7 (by decide)
  have bad37 : f_X6_readLine_37 1 70 N Sc1 = some (0, pI Sc1 1 2 f) := failC N c3
  rcases Tok_w tk with ⟨g, t4, t3, t7, t9⟩ | ⟨g, t4⟩
  · have mM : f_X11_readLine M Sm = (if 6 < mn7 (we t L f - f) then f_X11_readLine_25 (f_X11_readLine_63 M) M 0 0 Sm else f_X11_readLine_25 (f_X11_readLine_63 M) M 1 0 Sm) := by
      have m7 : mn7 (we t L f - f) ≤ 7 := by unfold mn7; split <;> omega
      have m7' : 0 ≤ mn7 (we t L f - f) := by unfold mn7; split <;> omega
      unfold f_X11_readLine f_X11_readLine_21 f_X11_readLine_22 gI
      dsimp only
      rw [t4, t7, cI_of (by omega) (by omega) (by omega) (by omega), if_pos rfl, cI_of (by omega) (by omega) (by omega) (by omega)]
    rw [if_pos g] at c1 c5
    by_cases g6 : 6 < we t L f - f
    · refine ex (pI Sc1 1 2 f) (f1.pI (Or.inl rfl)) (Bt.of (by rw [pI_row (by decide)]; exact c74')) (by rw [pI_cell (by decide)]; exact k1) (by rw [pI_idx (by decide)]; exact k2) (by rw [pI_idx (by decide)]; exact k3) pI_eq ?_ ?_
      · unfold f_X6_readLine
        rw [c1, bI_of, cI_of (by omega) (by omega) (by omega) (by omega), if_neg (by decide)]
        unfold gI
        dsimp only
        rw [c4, cI_of (by omega) (by omega) (by omega) (by omega), if_pos g6, bad37]
      · rw [mM, if_pos (by unfold mn7; split <;> omega), m0]
    · have e7 : mn7 (we t L f - f) = we t L f - f := by unfold mn7; split <;> omega
      rw [e7] at t7 t9 mM
      rw [if_neg (by omega)] at mM
      obtain ⟨n, hn⟩ : ∃ n, n = we t L f - f := ⟨_, rfl⟩
      rw [← hn] at t7 t9 c4 g6
      have h1 : RdT Sc1 L t := J.1.r c6
      have lt : ∀ j : Int, 0 ≤ j → j < n → 97 ≤ t (f + j) ∧ t (f + j) ≤ 122 := fun j x y => (scF_in (P := isLt) (t := t) (L - f).toNat f).2.1 (f + j) (by omega) (by show f + j < we t L f; omega)
      have c70 : Sc1.1 70 = Sc.1 70 := c6.2.1 70 (by decide)
      have c72 : Sc1.1 72 = Sc.1 72 := c6.2.1 72 (by decide)
      have c74 : Sc1.1 74 = Sc.1 74 := c6.2.1 74 (by decide)
      have hq : ∀ i, 0 ≤ i → i < nl → (Sm.2 5 i = Sm.2 0 9 ↔ (Sc1.1 72 i = n ∧ ∀ k, 0 ≤ k → k < n → Sc1.1 74 (6 * i + k) = t (f + k))) := fun i x y => by
        obtain ⟨_, _, _, r4, r5, r6⟩ := dr i x y
        rw [c72, c74, r6, t9]
        have v1 := wdV_I (f := fun j => Sc.1 74 (6 * i + j)) (Sc.1 72 i).toNat (by omega) (fun j a b => r5 j a (by omega))
        have v2 := wdV_I (f := fun j => t (f + j)) n.toNat (by omega) (fun j a b => lt j a (by omega))
        constructor
        · intro e
          rw [e, v2] at v1
          obtain ⟨q1, q2⟩ := wdI_inj n.toNat (Sc.1 72 i).toNat (fun j a b => lt j a (by omega)) (fun j a b => r5 j a (by omega)) v1
          exact ⟨by omega, fun k a b => (q2 k a (by omega)).symm⟩
        · rintro ⟨q1, q2⟩
          rw [q1]
          exact wdV_congr _ (fun j a b => q2 j a (by omega))
      have hC := hasName_loop h1 (n := n) (f := f) (by omega) (by omega) (by omega) hnl (by rw [c70]; exact d70) (fun i x y => by rw [c72, c74]; obtain ⟨_, _, _, r4, r5, _⟩ := dr i x y; exact ⟨r4, r5⟩) (fun i => Sm.2 5 i = Sm.2 0 9) hq nl.toNat N 0 (by omega) (by omega) (by omega)
      have hMd := (dup_loop (k63 := f_X11_readLine_63 M) hnl d16 nl.toNat M 0 (by omega) (by omega) (by omega)).2
      have cC : ∀ b, b = 0 ∨ b = 1 → f_X3_hasName_3 70 2 N f n 0 Sc1 = some (b, Sc1) → f_X6_readLine N Sc 1 70 = (if b = 0 then bI (f_X6_readNumber N Sc1 1 0 47) fun v50 S50 => cI v50 0 (if v50 = 0 then rZ 0 S50 else gI S50 1 4 fun v64 => gI S50 1 5 fun v68 => gI S50 1 3 fun v72 => bV (f_X3_add N S50 70 (1 + 1) v64 v68 v72) fun S75 => rZ 1 S75) else (f_X6_readLine_37 1 70 N) Sc1) := fun b hb e => by
        unfold f_X6_readLine
        rw [c1, bI_of, cI_of (by omega) (by omega) (by omega) (by omega), if_neg (by decide)]
        show (gI Sc1 1 5 fun v10 => _) = _
        unfold gI
        dsimp only
        rw [c4, c3, cI_of (by omega) (by omega) (by omega) (by omega), if_neg g6]
        unfold f_X3_hasName
        rw [show (1 + 1 : Nat) = 2 from rfl, e, bI_of, cI_of (by omega) (by omega) (by omega) (by omega)]
      rcases hC with ⟨k, z⟩ | ⟨k, z⟩
      · rcases hMd with ⟨_, y⟩ | ⟨k', _⟩
        · refine ex (pI Sc1 1 2 f) (f1.pI (Or.inl rfl)) (Bt.of (by rw [pI_row (by decide)]; exact c74')) (by rw [pI_cell (by decide)]; exact k1) (by rw [pI_idx (by decide)]; exact k2) (by rw [pI_idx (by decide)]; exact k3) pI_eq ?_ ?_
          · rw [cC 1 (Or.inr rfl) z, if_neg (by decide), bad37]
          · rw [mM, y, ← (dup_loop (k63 := f_X11_readLine_63 M) hnl d16 nl.toNat M 0 (by omega) (by omega) (by omega)).1, m0]
        · exact absurd k k'
      · rcases hMd with ⟨k', _⟩ | ⟨_, y⟩
        · exact absurd k' k
        · rw [cC 0 (Or.inl rfl) z, if_pos rfl, mM, y]
          obtain ⟨Sm1, hS1⟩ : ∃ Sm1, Sm1 = pI (pL Sm 5 nl (Sm.2 0 9)) 4 nl n := ⟨_, rfl⟩
          have F1 : FrT lnN kZ Sm Sm1 := by rw [hS1]; exact FrT.wI (i := 4) (A := lnN) (FrT.wJ (i := 5) (A := lnN) FrT.refl (by decide) (by decide)) (by decide) (by decide)
          have q3 : Sm1.1 0 3 = we t L f := by rw [hS1, pI_cell (by decide), pL_1]; exact t3
          obtain ⟨Sm2, n1, n2, n3, n4⟩ := nextJ M (J.2.1.r F1 (by decide) (by decide)) q3 (by omega) w.2 (by omega)
          have F2 : FrT lnN kZ Sm Sm2 := F1.trans n2 (fun _ q => q) (fun _ q => q.elim) (fun _ q => q) (fun k q => by rcases q with q | q; exact Or.inl q; exact Or.inr (Or.inl q))
          have J2 : JT Sc1 Sm2 L t (we t L f) := ⟨h1, J.2.1.r F2 (by decide) (by decide), by omega, c2, by rw [c5]; exact J.2.2.2.2.1, n3, by rw [n4, hS1, pI_cell (by decide), pL_1]; exact e8⟩
          obtain ⟨r, Sc2, x, Sm3, a1, a2, a3, a4, a5, a6⟩ := num_both N M J2 (hi := 47) (by omega) (by omega) (by omega)
          have F3 : FrT lnN kZ Sm Sm3 := F2.trans a4 (fun _ q => q) (fun _ q => q.elim) (fun _ q => q) (fun k q => by rcases q with q | q; exact Or.inl q; exact Or.inr (Or.inl q))
          have e16 : Sm3.1 0 16 = nl := by rw [a4.2.1 16 (by decide), n2.2.1 16 (by decide), hS1, pI_cell (by decide), pL_1]; exact d16
          have e16' : Sm2.1 0 16 = nl := by rw [n2.2.1 16 (by decide), hS1, pI_cell (by decide), pL_1]; exact d16
          obtain ⟨Sm4, hS4⟩ : ∃ Sm4, Sm4 = pI (pI Sm3 3 nl x) 0 16 (nl + 1) := ⟨_, rfl⟩
          have F4 : FrT lnN kZ Sm Sm4 := by rw [hS4]; exact (FrT.wI (i := 3) (A := lnN) F3 (by decide) (by decide)).w (Or.inr (Or.inr rfl))
          have m63 : f_X11_readLine_63 M 1 Sm = some Sm4 := by
            unfold f_X11_readLine_63
            rw [cI_of (by omega) (by omega) (by omega) (by omega), if_neg (by decide)]
            unfold gI gL
            dsimp only
            rw [d16, sL_of (by omega) (by omega), pL_1, d16, t7, sI_of (by omega) (by omega), ← hS1, n1, bV_of, e16', a2, bI_of, sI_of (by omega) (by omega), pI_cell (by decide), e16, hS4]
            rfl
          rw [m63]
          have f2 : Fr lnK Sc Sc2 := f1.trans (a3.fr (A := lnK) (Or.inl rfl)) (fun _ q => q) (fun _ q => q)
          have k1' : Sc2.1 70 1 = Sc.1 70 1 := by rw [a3.2.1 70 (by decide)]; exact k1
          have k2' : Sc2.1 1 6 = Sc.1 1 6 := by rw [a3.2.2 6 (by decide)]; exact k2
          have k3' : Sc2.1 1 7 = Sc.1 1 7 := by rw [a3.2.2 7 (by decide)]; exact k3
          have g8 : Sm4.1 0 8 = Sm3.1 0 8 := by rw [hS4, pI_idx (by decide), pI_cell (by decide)]
          rcases a6 with ⟨_, rfl, b3, e, he, J3⟩ | ⟨_, rfl, hq', jc, jm⟩
          · have z4 : Sc2.1 1 4 = f := by rw [a3.2.2 4 (by decide)]; exact c3
            have z5 : Sc2.1 1 5 = n := by rw [a3.2.2 5 (by decide)]; exact c4
            have z70 : Sc2.1 70 0 = nl := by rw [a3.2.1 70 (by decide), c70]; exact d70
            obtain ⟨Sc3, y1, y2, y3, y4, y5⟩ := addL_loop (k55 := f_X3_add_55 70 2 N) (pl := x) (n := n) (f := f) (by omega) (by omega) (by omega) (by omega) n.toNat N 0 Sc2 (by omega) (by omega) (by omega) J3.1 z70
            obtain ⟨Sc4, hC4⟩ : ∃ Sc4, Sc4 = pI (pI (pI Sc3 72 nl n) 71 nl x) 70 0 (nl + 1) := ⟨_, rfl⟩
            have z3 : Sc3.1 70 0 = nl := by rw [y2.2 70 (by decide)]; exact z70
            have ad : f_X3_add N Sc2 70 (1 + 1) f n x = some Sc4 := by
              unfold f_X3_add
              show (gI Sc2 70 0 fun v1 => _) = _
              unfold gI
              dsimp only
              rw [z70, cI_of (by omega) (by omega) (by omega) (by omega), if_pos (by omega), show (1 + 1 : Nat) = 2 from rfl, y1]
              unfold f_X3_add_55 gI
              dsimp only
              rw [z3, sI_of (by omega) (by omega), pI_cell (by decide), z3, sI_of (by omega) (by omega), pI_cell (by decide), pI_cell (by decide), z3, hC4]
              rfl
            have f3 : Fr (fun i => 70 ≤ i ∧ i ≤ 74) Sc2 Sc4 := by
              rw [hC4]
              exact (((y2.mono (C := fun i => 70 ≤ i ∧ i ≤ 74) (fun _ q => by omega)).pI (by omega)).pI (by omega)).pI (by omega)
            have f4 : Fr lnK Sc Sc4 := f2.trans f3 (fun _ q => q) (fun _ q => Or.inr q)
            have J4 : JT Sc4 Sm4 L t e := by
              rw [hS4]
              exact ((J3.m (Sm' := pI Sm3 3 nl x) (pI_row (by decide)) (pI_row (by decide)) rfl).mE (Sm' := pI (pI Sm3 3 nl x) 0 16 (nl + 1)) (fun k hk => pI_idx (by omega)) (pI_row (by decide)) rfl).c (fun j hj => f3.2 j (by omega))
            have u71 : ∀ i, Sc4.1 71 i = if i = nl then x else Sc.1 71 i := fun i => by
              rw [hC4, pI_row (i := 70) (by decide)]
              by_cases q : i = nl
              · rw [if_pos q, q, pI_eq]
              · rw [if_neg q, pI_idx q, pI_row (by decide), y2.2 71 (by decide), a3.2.1 71 (by decide), c6.2.1 71 (by decide)]
            have u72 : ∀ i, Sc4.1 72 i = if i = nl then n else Sc.1 72 i := fun i => by
              rw [hC4, pI_row (i := 70) (by decide), pI_row (i := 71) (by decide)]
              by_cases q : i = nl
              · rw [if_pos q, q, pI_eq]
              · rw [if_neg q, pI_idx q, y2.2 72 (by decide), a3.2.1 72 (by decide), c72]
            have u74 : Sc4.1 74 = Sc3.1 74 := by
              rw [hC4, pI_row (i := 70) (by decide), pI_row (i := 71) (by decide), pI_row (i := 72) (by decide)]
            have v3 : ∀ i, Sm4.1 3 i = if i = nl then x else Sm.1 3 i := fun i => by
              rw [hS4, pI_row (i := 0) (by decide)]
              by_cases q : i = nl
              · rw [if_pos q, q, pI_eq]
              · rw [if_neg q, pI_idx q, (a4.1 3 (by decide) (fun q => q)).1, (n2.1 3 (by decide) (fun q => q)).1, hS1, pI_row (by decide), pL_1]
            have v4 : ∀ i, Sm4.1 4 i = if i = nl then n else Sm.1 4 i := fun i => by
              rw [hS4, pI_row (i := 0) (by decide), pI_row (i := 3) (by decide), (a4.1 4 (by decide) (fun q => q)).1, (n2.1 4 (by decide) (fun q => q)).1, hS1]
              by_cases q : i = nl
              · rw [if_pos q, q, pI_eq]
              · rw [if_neg q, pI_idx q, pL_1]
            have v5 : ∀ i, Sm4.2 5 i = if i = nl then Sm.2 0 9 else Sm.2 5 i := fun i => by
              rw [hS4]
              show Sm3.2 5 i = _
              rw [(a4.1 5 (by decide) (fun q => q)).2, (n2.1 5 (by decide) (fun q => q)).2, hS1]
              exact pL_at
            refine ⟨1, Sc4, Sm4, ?_, rfl, f4, (Bt.of (by rw [a3.2.1 74 (by decide)]; exact c74')).trans (y5.trans (Bt.of u74)), ?_, ?_, ?_, F4, Or.inr ⟨rfl, ⟨e, by omega, J4⟩, by omega, by rw [hC4]; exact pI_eq, by rw [hS4]; exact pI_eq, fun i x1 x2 => ?_⟩⟩
            · rw [a1, bI_of, cI_of (by omega) (by omega) (by omega) (by omega), if_neg (by decide)]
              unfold gI
              dsimp only
              rw [z4, z5, b3, ad, bV_of, rZ_of (Or.inr rfl)]
            · rw [hC4, pI_idx (by decide), pI_row (i := 71) (by decide), pI_row (i := 72) (by decide), y2.2 70 (by decide)]; exact k1'
            · rw [f3.2 1 (by decide)]; exact k2'
            · rw [f3.2 1 (by decide)]; exact k3'
            · rw [u71, u72, u74, v3, v4, v5]
              by_cases q : i = nl
              · rw [if_pos q, if_pos q, if_pos q, if_pos q, if_pos q, q]
                refine ⟨rfl, a5, rfl, by omega, fun j j1 j2 => ?_, ?_⟩
                · rw [y3 j j1 j2]; exact lt j j1 j2
                · rw [t9]; exact wdV_congr _ (fun j j1 j2 => (y3 j j1 (by omega)).symm)
              · rw [if_neg q, if_neg q, if_neg q, if_neg q, if_neg q]
                obtain ⟨r1, r2, r3, r4, r5, r6⟩ := dr i x1 (by omega)
                have y : ∀ j, 0 ≤ j → j < Sc.1 72 i → Sc3.1 74 (6 * i + j) = Sc.1 74 (6 * i + j) := fun j j1 j2 => by rw [y4 _ (by omega), a3.2.1 74 (by decide), c74]
                refine ⟨r1, r2, r3, r4, fun j j1 j2 => by rw [y j j1 j2]; exact r5 j j1 j2, ?_⟩
                rw [r6]; exact wdV_congr _ (fun j j1 j2 => (y j j1 (by omega)).symm)
          · refine ⟨0, Sc2, Sm4, ?_, rfl, f2, Bt.of (by rw [a3.2.1 74 (by decide)]; exact c74'), k1', k2', k3', F4, Or.inl ⟨rfl, bk t L (we t L f), hq', jc, g8.trans jm⟩⟩
            rw [a1, bI_of, cI_of (by omega) (by omega) (by omega) (by omega), if_pos rfl, rZ_of (Or.inl rfl)]
  · rw [if_neg g] at c1 c5
    refine ex Sc1 f1 (Bt.of c74') k1 k2 k3 c5 ?_ ?_
    · unfold f_X6_readLine
      rw [c1, bI_of, cI_of (by omega) (by omega) (by omega) (by omega), if_pos rfl, rZ_of (Or.inl rfl)]
    · unfold f_X11_readLine f_X11_readLine_21 f_X11_readLine_22 gI
      dsimp only
      rw [cI_of (by omega) (by omega) (by omega) (by omega), if_neg t4, m0]
end CLAUSE
