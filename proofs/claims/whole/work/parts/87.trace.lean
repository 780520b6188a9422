/-! texts: the clauses of a trace on both sides -/
theorem has_dec : ∀ g : Nat, g < 16 → ∀ i : Nat, i < 3 → bz (iz (bz (iz (g : Int) >>> (iz (i : Int) &&& 31))) &&& iz 1) = ((g / 2 ^ i % 2 : Nat) : Int) := by decide
theorem set_dec : ∀ g : Nat, g < 16 → ∀ i : Nat, i < 4 → bz (iz (g : Int) ||| iz (bz (iz 1 <<< (iz (i : Int) &&& 31)))) = ((if g / 2 ^ i % 2 = 1 then g else g + 2 ^ i : Nat) : Int) := by decide
/-- what is read so far; g: the kinds that are given -/
def TRd (Sc Sm : S2) (g : Nat) : Prop := g < 16 ∧ Sc.1 1 6 = ((g / 2 % 2 : Nat) : Int) ∧ Sc.1 1 7 = ((g / 4 % 2 : Nat) : Int) ∧ ((g % 2 = 0 ∧ Sc.1 54 1 = 0) ∨ (g % 2 = 1 ∧ ∃ m, (1 ≤ m ∧ m ≤ 48) ∧ SmR Sc Sm m)) ∧ (Sm.1 0 17 = Sc.1 54 2 ∧ 0 ≤ Sc.1 54 2 ∧ Sc.1 54 2 ≤ 999) ∧ (Sm.1 0 18 = Sc.1 70 1 ∧ 0 ≤ Sc.1 70 1 ∧ Sc.1 70 1 ≤ 9) ∧ ∃ nl, LnD Sc Sm nl
section TRACE
variable {S Sc Sm : S2} {L p f n nl : Int} {t : Int → Int} {g : Nat}
theorem SmR.keep {Sc' Sm' : S2} {m : Int} (h : SmR Sc Sm m) (c1 : Sc'.1 54 1 = Sc.1 54 1) (c2 : Sc'.1 55 = Sc.1 55) (m1 : Sm'.1 0 15 = Sm.1 0 15) (m2 : Sm'.1 2 = Sm.1 2) : SmR Sc' Sm' m := by
  unfold SmR; rw [c1, c2, m1, m2]; exact h
theorem LnD.keep {Sc' Sm' : S2} (h : LnD Sc Sm nl) (c0 : Sc'.1 70 0 = Sc.1 70 0) (c1 : Sc'.1 71 = Sc.1 71) (c2 : Sc'.1 72 = Sc.1 72) (c4 : Sc'.1 74 = Sc.1 74) (m0 : Sm'.1 0 16 = Sm.1 0 16) (m3 : Sm'.1 3 = Sm.1 3) (m4 : Sm'.1 4 = Sm.1 4) (m5 : Sm'.2 5 = Sm.2 5) : LnD Sc' Sm' nl := by
  unfold LnD; rw [c0, c1, c2, c4, m0, m3, m4, m5]; exact h
theorem hasT_of (N : Nat) (hg : g < 16) {i : Nat} (hi : i < 3) : f_X11_has N S (g : Int) (i : Int) = some (((g / 2 ^ i % 2 : Nat) : Int), S) := by
  unfold f_X11_has
  rw [has_dec g hg i hi]
  rcases (show g / 2 ^ i % 2 = 0 ∨ g / 2 ^ i % 2 = 1 by omega) with e | e <;> rw [e, cI_of (by omega) (by omega) (by omega) (by omega)]
  · rw [if_neg (by decide), rZ_of (Or.inl rfl)]; rfl
  · rw [if_pos (by decide), rZ_of (Or.inr rfl)]; rfl
/-- the clause at f: 0 trace, 1 noise, 2 reach, 3 line, -1 none -/
theorem kind_of (tk : TokF S L t f) : ∃ kd : Int, (-1 ≤ kd ∧ kd ≤ 3) ∧ ∀ w : Nat, w < 4 → ((S.1 0 4 = 1 ∧ S.2 0 9 = cdW w) ↔ (w : Int) = kd) := by
  by_cases h : ∃ v : Nat, v < 4 ∧ (S.1 0 4 = 1 ∧ S.2 0 9 = cdW v)
  · obtain ⟨v, h1, h2⟩ := h
    refine ⟨v, by omega, fun w hw => ⟨fun q => ?_, fun q => ?_⟩⟩
    · rw [cdW_inj w (by omega) v (by omega) (q.2.symm.trans h2.2)]
    · rw [show w = v by omega]; exact h2
  · exact ⟨-1, by omega, fun w hw => ⟨fun q => absurd ⟨w, hw, q⟩ h, fun q => by omega⟩⟩
theorem clauseM_of {kd : Int} (M : Nat) (tk : TokF S L t f) (hk : -1 ≤ kd ∧ kd ≤ 3) (hw : ∀ w : Nat, w < 4 → ((S.1 0 4 = 1 ∧ S.2 0 9 = cdW w) ↔ (w : Int) = kd)) : f_X11_clause M S (g : Int) = f_X11_clause_57 M g kd S := by
  have ml : ∀ w : Nat, w < 4 → f_X11_isWord M S (cdW w) = some (if (w : Int) = kd then 1 else 0, S) := fun w h => by
    rcases isWordM M tk.x rfl (cdW w) with ⟨q, z⟩ | ⟨q, z⟩
    · rw [if_pos ((hw w h).mp q)]; exact z
    · rw [if_neg (fun k => q ((hw w h).mpr k))]; exact z
  have m0 := ml 0 (by decide)
  have m1 := ml 1 (by decide)
  have m2 := ml 2 (by decide)
  have m3 := ml 3 (by decide)
  rw [cdW_0] at m0
  rw [cdW_1] at m1
  rw [cdW_2] at m2
  rw [cdW_3] at m3
  unfold f_X11_clause
  rcases (show kd = -1 ∨ kd = 0 ∨ kd = 1 ∨ kd = 2 ∨ kd = 3 by omega) with rfl | rfl | rfl | rfl | rfl
  · rw [if_neg (by decide)] at m0 m1 m2 m3
    rw [m0, bI_of, cI_of (by omega) (by omega) (by omega) (by omega), if_pos rfl, m1, bI_of, cI_of (by omega) (by omega) (by omega) (by omega), if_pos rfl, m2, bI_of, cI_of (by omega) (by omega) (by omega) (by omega), if_pos rfl, m3, bI_of, cI_of (by omega) (by omega) (by omega) (by omega), if_pos rfl]
  · rw [if_pos (by decide)] at m0
    rw [m0, bI_of, cI_of (by omega) (by omega) (by omega) (by omega), if_neg (by decide)]
  · rw [if_neg (by decide)] at m0
    rw [if_pos (by decide)] at m1
    rw [m0, bI_of, cI_of (by omega) (by omega) (by omega) (by omega), if_pos rfl, m1, bI_of, cI_of (by omega) (by omega) (by omega) (by omega), if_neg (by decide)]
  · rw [if_neg (by decide)] at m0 m1
    rw [if_pos (by decide)] at m2
    rw [m0, bI_of, cI_of (by omega) (by omega) (by omega) (by omega), if_pos rfl, m1, bI_of, cI_of (by omega) (by omega) (by omega) (by omega), if_pos rfl, m2, bI_of, cI_of (by omega) (by omega) (by omega) (by omega), if_neg (by decide)]
  · rw [if_neg (by decide)] at m0 m1 m2
    rw [if_pos (by decide)] at m3
    rw [m0, bI_of, cI_of (by omega) (by omega) (by omega) (by omega), if_pos rfl, m1, bI_of, cI_of (by omega) (by omega) (by omega) (by omega), if_pos rfl, m2, bI_of, cI_of (by omega) (by omega) (by omega) (by omega), if_pos rfl, m3, bI_of, cI_of (by omega) (by omega) (by omega) (by omega), if_neg (by decide)]
theorem m90_of (M : Nat) (tk : TokF S L t f) (h8 : S.1 0 8 = -1) : f_X11_clause_90 M g S = some ((g : Int), pI S 0 8 f) := by
  unfold f_X11_clause_90
  rw [bad_of M h8 tk.1]; rfl
theorem m168_of (M : Nat) (hg : g < 16) {i : Nat} (hi : i < 4) : f_X11_clause_168 M g (i : Int) S = some (((if g / 2 ^ i % 2 = 1 then g else g + 2 ^ i : Nat) : Int), S) := by
  unfold f_X11_clause_168
  rw [set_dec g hg i hi]; rfl
def ClO (Sc Sm : S2) (L : Int) (t : Int → Int) (p r : Int) (g' : Nat) : Prop := (r = 0 ∧ ∃ q, JF Sc Sm L q) ∨ (r = 1 ∧ ∃ e, p < e ∧ ((JT Sc Sm L t e ∧ TRd Sc Sm g') ∨ JE Sc Sm L t e))
theorem clause_both (N M : Nat) (J : JT Sc Sm L t p) (T : TRd Sc Sm g) (hN : 900 ≤ N) (hM : 900 ≤ M) : ∃ r Sc' g' Sm', f_X6_readClause N Sc 1 54 70 = some (r, Sc') ∧ f_X11_clause M Sm (g : Int) = some (((g' : Nat) : Int), Sm') ∧ Fr trA Sc Sc' ∧ Bt Sc Sc' ∧ FrT trM kX Sm Sm' ∧ ClO Sc' Sm' L t p r g' := by
  have hL := J.1.1
  have hp := J.2.2.1
  have tk := J.2.2.2.2.2.1
  have e8 := J.2.2.2.2.2.2
  have b := bk_in (t := t) hp.1 hp.2
  obtain ⟨hg, t6, t7, tS, tN, tR, nl, D⟩ := T
  obtain ⟨Sc1, c1, c2, c3, c4, c5, c6⟩ := readWordC N J.1 J.2.2.2.1 hp.1 hp.2 (by omega)
  obtain ⟨f, hf⟩ : ∃ f, f = bk t L p := ⟨_, rfl⟩
  rw [← hf] at c1 c2 c3 c4 c5 tk b
  have w := we_in (t := t) (L := L) (p := f) (by omega) (by omega)
  have f1 : Fr trA Sc Sc1 := c6.fr (Or.inl rfl)
  have c74' : Sc1.1 74 = Sc.1 74 := c6.2.1 74 (by decide)
  obtain ⟨kd, hk, hw⟩ := kind_of tk
  have mc := clauseM_of (g := g) M tk hk hw
  have ex : ∀ Sc' : S2, Fr trA Sc Sc' → Bt Sc Sc' → Sc'.1 1 2 = f → f_X6_readClause N Sc 1 54 70 = some (0, Sc') → f_X11_clause_57 M g kd Sm = f_X11_clause_90 M g Sm → ∃ r Sc' g' Sm', f_X6_readClause N Sc 1 54 70 = some (r, Sc') ∧ f_X11_clause M Sm (g : Int) = some (((g' : Nat) : Int), Sm') ∧ Fr trA Sc Sc' ∧ Bt Sc Sc' ∧ FrT trM kX Sm Sm' ∧ ClO Sc' Sm' L t p r g' := fun Sc' a1 aB a2 a3 a4 => ⟨0, Sc', g, pI Sm 0 8 f, a3, by rw [mc, a4, m90_of M tk e8], a1, aB, FrT.refl.w (Or.inl (by omega)), Or.inl ⟨rfl, f, by omega, a2, pI_eq⟩⟩
  have n57 : kd = -1 → f_X11_clause_57 M g kd Sm = f_X11_clause_90 M g Sm := fun h => by
    unfold f_X11_clause_57
    rw [cI_of (by omega) (by omega) (by omega) (by omega), if_pos h]
  rcases Tok_w tk with ⟨gw, u4, u3, -, -⟩ | ⟨gw, u4⟩
  · rw [if_pos gw] at c1 c5
    have h1 : RdT Sc1 L t := J.1.r c6
    have hw' : ∀ v : Nat, v < 4 → (isW t f (we t L f - f) v ↔ (v : Int) = kd) := fun v hv => by
      rw [← hw v hv, Tok_word tk (by omega)]
      exact ⟨fun q => ⟨gw, q⟩, fun q => q.2⟩
    have cl : ∀ v : Nat, v < 4 → f_X6_isWord N Sc1 1 v = some (if (v : Int) = kd then 1 else 0, Sc1) := fun v hv => by
      rcases isWordC N (show v < 13 by omega) h1 c3 c4 (by omega) (by omega) (by omega) (by omega) with ⟨q, z⟩ | ⟨q, z⟩
      · rw [if_pos ((hw' v hv).mp q)]; exact z
      · rw [if_neg (fun k => q ((hw' v hv).mpr k))]; exact z
    have cI01 : ∀ {x : Prop} [Decidable x] {K : Option (Int × S2)}, cI (if x then (1 : Int) else 0) 0 K = K := fun {x} _ {K} => by
      by_cases q : x
      · rw [if_pos q, cI_of (by omega) (by omega) (by omega) (by omega)]
      · rw [if_neg q, cI_of (by omega) (by omega) (by omega) (by omega)]
    have i01 : ∀ {x : Prop} [Decidable x] {A B : Option (Int × S2)}, (if (if x then (1 : Int) else 0) = 0 then A else B) = (if x then B else A) := fun {x} _ {A B} => by
      by_cases q : x
      · rw [if_pos q, if_neg (by decide), if_pos q]
      · rw [if_neg q, if_pos rfl, if_neg q]
    have k16 : Sc1.1 1 6 = ((g / 2 % 2 : Nat) : Int) := by rw [c6.2.2 6 (by decide)]; exact t6
    have k17 : Sc1.1 1 7 = ((g / 4 % 2 : Nat) : Int) := by rw [c6.2.2 7 (by decide)]; exact t7
    have k54 : Sc1.1 54 = Sc.1 54 := c6.2.1 54 (by decide)
    have k55 : Sc1.1 55 = Sc.1 55 := c6.2.1 55 (by decide)
    have k70 : Sc1.1 70 = Sc.1 70 := c6.2.1 70 (by decide)
    have D1 : LnD Sc1 Sm nl := D.keep (by rw [k70]) (c6.2.1 71 (by decide)) (c6.2.1 72 (by decide)) (c6.2.1 74 (by decide)) rfl rfl rfl rfl
    have hnl := D1.1
    have e134 : f_X6_readClause_134 1 54 70 N Sc1 = some (0, pI Sc1 1 2 f) := failC N c3
    have e110 : f_X6_readClause_110 1 54 70 N Sc1 = (if kd = 3 then (if 8 ≤ nl then some (0, pI Sc1 1 2 f) else bI (f_X6_readLine N Sc1 1 70) fun v130 S130 => rZ v130 S130) else some (0, pI Sc1 1 2 f)) := by
      unfold f_X6_readClause_110
      rw [cl 3 (by decide), bI_of, cI01, i01, e134]
      unfold gI
      dsimp only
      rw [D1.2.1, cI_of (by omega) (by omega) (by omega) (by omega)]
      by_cases q : kd = 3
      · rw [if_pos q, if_pos (by omega)]
      · rw [if_neg q, if_neg (by omega)]
    have e71 : kd ≠ 2 → f_X6_readClause_71 1 54 70 N Sc1 = f_X6_readClause_110 1 54 70 N Sc1 := fun q => by
      unfold f_X6_readClause_71
      rw [cl 2 (by decide), bI_of, cI01, i01, if_neg (by omega)]
    have e31 : kd ≠ 1 → f_X6_readClause_31 1 54 70 N Sc1 = f_X6_readClause_71 1 54 70 N Sc1 := fun q => by
      unfold f_X6_readClause_31
      rw [cl 1 (by decide), bI_of, cI01, i01, if_neg (by omega)]
    have e0 : kd ≠ 0 → f_X6_readClause N Sc 1 54 70 = f_X6_readClause_31 1 54 70 N Sc1 := fun q => by
      unfold f_X6_readClause
      rw [c1, bI_of, cI_of (by omega) (by omega) (by omega) (by omega), if_neg (by decide), cl 0 (by decide), bI_of, cI01, i01, if_neg (by omega)]
    have has : ∀ i : Nat, i < 3 → f_X11_has M Sm (g : Int) (i : Int) = some (((g / 2 ^ i % 2 : Nat) : Int), Sm) := fun i hi => hasT_of M hg hi
    have m57y : ∀ i : Nat, i < 3 → kd = (i : Int) → g / 2 ^ i % 2 = 1 → f_X11_clause_57 M g kd Sm = f_X11_clause_90 M g Sm := fun i hi h1 h2 => by
      unfold f_X11_clause_57
      rw [cI_of (by omega) (by omega) (by omega) (by omega), if_neg (by omega), cI_of (by omega) (by omega) (by omega) (by omega), if_neg (by omega), h1, has i hi, bI_of, h2, cI_of (by omega) (by omega) (by omega) (by omega), if_neg (by decide)]
    obtain ⟨Sm2, n1, n2, n3, n4⟩ := nextJ M J.2.1 u3 (by omega) w.2 (by omega)
    have F2 : FrT trM kX Sm Sm2 := n2.trans FrT.refl (fun _ q => q.elim) (fun _ q => q) (fun k q => by rcases q with q | q; exact Or.inl q; exact Or.inr (Or.inl q)) (fun _ q => q)
    have m76 : ∀ i : Nat, i < 3 → f_X11_clause_76 M g (i : Int) Sm = f_X11_clause_96 M g (i : Int) Sm := fun i hi => by
      unfold f_X11_clause_76
      rw [cI_of (by omega) (by omega) (by omega) (by omega), if_neg (by omega)]
    have m57n : ∀ i : Nat, i < 3 → kd = (i : Int) → g / 2 ^ i % 2 = 0 → f_X11_clause_57 M g kd Sm = f_X11_clause_96 M g (i : Int) Sm := fun i hi h1 h2 => by
      unfold f_X11_clause_57
      rw [cI_of (by omega) (by omega) (by omega) (by omega), if_neg (by omega), cI_of (by omega) (by omega) (by omega) (by omega), if_neg (by omega), h1, has i hi, bI_of, h2, cI_of (by omega) (by omega) (by omega) (by omega), if_pos (by decide), m76 i hi]
    have J2 : JT Sc1 Sm2 L t (we t L f) := ⟨h1, J.2.1.r n2 (fun q => q) (by decide), by omega, c2, by rw [c5]; exact J.2.2.2.2.1, n3, n4.trans e8⟩
    rcases (show kd = -1 ∨ kd = 0 ∨ kd = 1 ∨ kd = 2 ∨ kd = 3 by omega) with k | k | k | k | k
    · refine ex (pI Sc1 1 2 f) (f1.pI (Or.inl rfl)) (Bt.of (by rw [pI_row (by decide)]; exact c74')) pI_eq ?_ (n57 k)
      rw [e0 (by omega), e31 (by omega), e71 (by omega), e110, if_neg (by omega)]
    · by_cases hb : g / 2 ^ 0 % 2 = 1
      · refine ex (pI Sc1 1 2 f) (f1.pI (Or.inl rfl)) (Bt.of (by rw [pI_row (by decide)]; exact c74')) pI_eq ?_ (m57y 0 (by decide) k hb)
        have g1 : g % 2 = 1 := by omega
        rcases tS with ⟨z, _⟩ | ⟨_, m, z, v⟩
        · omega
        unfold f_X6_readClause
        rw [c1, bI_of, cI_of (by omega) (by omega) (by omega) (by omega), if_neg (by decide), cl 0 (by decide), bI_of, cI01, i01, if_pos (by omega)]
        unfold gI
        dsimp only
        rw [k54, v.1, cI_of (by omega) (by omega) (by omega) (by omega), if_neg (by omega), e31 (by omega), e71 (by omega), e110, if_neg (by omega)]
      · have g0 : g % 2 = 0 := by omega
        have z0 : Sc.1 54 1 = 0 := by
          rcases tS with ⟨_, z⟩ | ⟨z, _⟩
          · exact z
          · omega
        have J3 : JT Sc1 (pI Sm2 0 15 0) L t (we t L f) := J2.mE (fun k hk => pI_idx (by omega)) (pI_row (by decide)) rfl
        obtain ⟨r, Sc', Sm', a1, a2, a3, a4, a5, a6, a7, a8⟩ := samples_loop (N0 := N) (M0 := M) 48 N M 0 (we t L f) Sc1 (pI Sm2 0 15 0) (by omega) (by omega) (by omega) (by omega) J3 ⟨by rw [k54]; exact z0, pI_eq, fun i x y => by omega⟩ (fun q => by omega)
        have F4 : FrT trM kX Sm Sm' := (F2.w (k := 15) (v := 0) (Or.inr (Or.inr (by omega)))).trans a7 (fun _ q => q) (fun j q => by have q : j = 2 := q; show 2 ≤ j ∧ j ≤ 5; omega) (fun _ q => q) (fun k q => by rcases q with q | q | q; exact Or.inl q; exact Or.inr (Or.inl q); exact Or.inr (Or.inr (by omega)))
        have mA : f_X11_clause M Sm (g : Int) = some (((g + 1 : Nat) : Int), Sm') := by
          rw [mc, m57n 0 (by decide) k (by omega)]
          unfold f_X11_clause_96
          rw [n1, bV_of, cI_of (by omega) (by omega) (by omega) (by omega), if_pos (by decide)]
          unfold f_X11_readSamples uI
          dsimp only
          rw [a2, bV_of]
          have z := m168_of (S := Sm') M hg (i := 0) (by decide)
          rw [if_neg hb] at z
          exact z
        have fA : Fr trA Sc Sc' := f1.trans a3 (fun _ q => q) (fun j q => by rcases q with q | q | q; exact Or.inl q; exact Or.inr (Or.inl q); exact Or.inr (Or.inr (Or.inl q)))
        have bA : Bt Sc Sc' := Bt.of (by rw [a3.2 74 (by decide)]; exact c74')
        have cA : ∀ q, q = 0 ∨ q = 1 → r = q → f_X6_readClause N Sc 1 54 70 = some (q, Sc') := fun q hq e => by
          unfold f_X6_readClause
          rw [c1, bI_of, cI_of (by omega) (by omega) (by omega) (by omega), if_neg (by decide), cl 0 (by decide), bI_of, cI01, i01, if_pos (by omega)]
          unfold gI
          dsimp only
          rw [k54, z0, cI_of (by omega) (by omega) (by omega) (by omega), if_pos rfl]
          unfold f_X6_readSamples
          rw [a1, bI_of, e, rZ_of hq]
        rcases a8 with ⟨hr, jf⟩ | ⟨hr, e, he, ⟨m', hm', J5, R5⟩ | je⟩
        · exact ⟨0, Sc', g + 1, Sm', cA 0 (Or.inl rfl) hr, mA, fA, bA, F4, Or.inl ⟨rfl, jf⟩⟩
        · have D2 : LnD Sc' Sm' nl := D1.keep (by rw [a3.2 70 (by decide)]) (a3.2 71 (by decide)) (a3.2 72 (by decide)) (a3.2 74 (by decide)) (by rw [a7.2.1 16 (by decide), pI_idx (by decide), n2.2.1 16 (by decide)]) (by rw [(a7.1 3 (by decide) (by decide)).1, pI_row (by decide), (n2.1 3 (by decide) (fun q => q)).1]) (by rw [(a7.1 4 (by decide) (by decide)).1, pI_row (by decide), (n2.1 4 (by decide) (fun q => q)).1]) (by rw [(a7.1 5 (by decide) (by decide)).2]; exact (n2.1 5 (by decide) (fun q => q)).2)
          refine ⟨1, Sc', g + 1, Sm', cA 1 (Or.inr rfl) hr, mA, fA, bA, F4, Or.inr ⟨rfl, e, by omega, Or.inl ⟨J5, by omega, by rw [a5, k16]; omega, by rw [a6, k17]; omega, Or.inr ⟨by omega, m', hm', R5⟩, ?_, ?_, nl, D2⟩⟩⟩
          · rw [a4, k54, a7.2.1 17 (by decide), pI_idx (by decide), n2.2.1 17 (by decide)]; exact tN
          · rw [a3.2 70 (by decide), k70, a7.2.1 18 (by decide), pI_idx (by decide), n2.2.1 18 (by decide)]; exact tR
        · exact ⟨1, Sc', g + 1, Sm', cA 1 (Or.inr rfl) hr, mA, fA, bA, F4, Or.inr ⟨rfl, e, by omega, Or.inr je⟩⟩
    · by_cases hb : g / 2 ^ 1 % 2 = 1
      · refine ex (pI Sc1 1 2 f) (f1.pI (Or.inl rfl)) (Bt.of (by rw [pI_row (by decide)]; exact c74')) pI_eq ?_ (m57y 1 (by decide) k hb)
        rw [e0 (by omega)]
        unfold f_X6_readClause_31
        rw [cl 1 (by decide), bI_of, cI01, i01, if_pos (by omega)]
        unfold gI
        dsimp only
        rw [k16, cI_of (by omega) (by omega) (by omega) (by omega), if_neg (by omega), e71 (by omega), e110, if_neg (by omega)]
      · have fR : FrR (fun k => k = 6) Sc1 (pI Sc1 1 6 1) := FrR.refl.w rfl
        have J3 : JT (pI Sc1 1 6 1) Sm2 L t (we t L f) := ⟨h1.r fR, J2.2.1, J2.2.2.1, by rw [pI_idx (by decide)]; exact c2, by rw [pI_idx (by decide)]; exact J2.2.2.2.2.1, J2.2.2.2.2.2.1, J2.2.2.2.2.2.2⟩
        obtain ⟨r, Sc2, x, Sm3, a1, a2, a3, a4, a5, a6⟩ := num_both N M J3 (hi := 999) (by omega) (by omega) (by omega)
        obtain ⟨Sm4, hM'⟩ : ∃ Sm4, Sm4 = pI Sm3 0 17 x := ⟨_, rfl⟩
        have F4 : FrT trM kX Sm Sm4 := by
          rw [hM']
          exact (F2.trans a4 (fun _ q => q) (fun _ q => q.elim) (fun _ q => q) (fun k q => by rcases q with q | q; exact Or.inl q; exact Or.inr (Or.inl q)) (A'' := trM) (F'' := kX)).w (Or.inr (Or.inr (by omega)))
        have mA : f_X11_clause M Sm (g : Int) = some (((g + 2 : Nat) : Int), Sm4) := by
          rw [mc, m57n 1 (by decide) k (by omega)]
          unfold f_X11_clause_96
          rw [n1, bV_of, cI_of (by omega) (by omega) (by omega) (by omega), if_neg (by decide), if_pos (by decide), a2, bI_of]
          unfold uI
          rw [← hM']
          have z := m168_of (S := Sm4) M hg (i := 1) (by decide)
          rw [if_neg hb] at z
          exact z
        obtain ⟨Sc3, hC0⟩ : ∃ Sc3, Sc3 = pI Sc2 54 2 (Sc2.1 1 3) := ⟨_, rfl⟩
        have g8 : Sm4.1 0 8 = Sm3.1 0 8 := by rw [hM', pI_idx (by decide)]
        have fA : Fr trA Sc Sc3 := by
          rw [hC0]
          exact ((f1.trans ((fR.fr (A := trA) (Or.inl rfl)).trans (a3.fr (A := trA) (Or.inl rfl)) (fun _ q => q) (fun _ q => q) (C := trA)) (fun _ q => q) (fun _ q => q) (C := trA)).pI (by decide))
        have bA : Bt Sc Sc3 := Bt.of (by rw [hC0, pI_row (by decide), a3.2.1 74 (by decide), pI_row (by decide)]; exact c74')
        have cA : ∀ q, q = 0 ∨ q = 1 → r = q → f_X6_readClause N Sc 1 54 70 = some (q, Sc3) := fun q hq e => by
          rw [e0 (by omega)]
          unfold f_X6_readClause_31
          rw [cl 1 (by decide), bI_of, cI01, i01, if_pos (by omega)]
          unfold gI
          dsimp only
          rw [k16, cI_of (by omega) (by omega) (by omega) (by omega), if_pos (by omega), uZ_of (Or.inr rfl), a1, bI_of]
          unfold uI
          rw [← hC0, e]
          exact rZ_of hq
        rcases a6 with ⟨_, hr, b3, e, he, J4⟩ | ⟨_, hr, hq', jc, jm⟩
        · have hC : Sc3 = pI Sc2 54 2 x := by rw [hC0, b3]
          have J5 : JT Sc3 Sm4 L t e := by
            rw [hC, hM']
            exact (J4.mE (Sm' := pI Sm3 0 17 x) (fun k hk => pI_idx (by omega)) (pI_row (by decide)) rfl).c (fun j hj => pI_row (by omega))
          have D2 : LnD Sc3 Sm4 nl := D.keep (by rw [hC, pI_row (i := 54) (by decide), a3.2.1 70 (by decide), pI_row (by decide)]; rw [k70]) (by rw [hC, pI_row (by decide), a3.2.1 71 (by decide), pI_row (by decide), c6.2.1 71 (by decide)]) (by rw [hC, pI_row (by decide), a3.2.1 72 (by decide), pI_row (by decide), c6.2.1 72 (by decide)]) (by rw [hC, pI_row (by decide), a3.2.1 74 (by decide), pI_row (by decide), c6.2.1 74 (by decide)]) (by rw [hM', pI_idx (by decide), a4.2.1 16 (by decide), n2.2.1 16 (by decide)]) (by rw [hM', pI_row (by decide), (a4.1 3 (by decide) (fun q => q)).1, (n2.1 3 (by decide) (fun q => q)).1]) (by rw [hM', pI_row (by decide), (a4.1 4 (by decide) (fun q => q)).1, (n2.1 4 (by decide) (fun q => q)).1]) (by rw [hM']; show Sm3.2 5 = _; rw [(a4.1 5 (by decide) (fun q => q)).2, (n2.1 5 (by decide) (fun q => q)).2])
          refine ⟨1, Sc3, g + 2, Sm4, cA 1 (Or.inr rfl) hr, mA, fA, bA, F4, Or.inr ⟨rfl, e, by omega, Or.inl ⟨J5, ⟨by omega, by rw [hC, pI_row (i := 54) (by decide), a3.2.2 6 (by decide), pI_eq]; omega, by rw [hC, pI_row (i := 54) (by decide), a3.2.2 7 (by decide), pI_idx (by decide), k17]; omega, ?_, ⟨by rw [hC, hM', pI_eq, pI_eq], by rw [hC, pI_eq]; exact a5⟩, ⟨by rw [hC, hM', pI_row (i := 54) (by decide), pI_idx (by decide), a4.2.1 18 (by decide), n2.2.1 18 (by decide), a3.2.1 70 (by decide), pI_row (by decide), k70]; exact tR.1, by rw [hC, pI_row (i := 54) (by decide), a3.2.1 70 (by decide), pI_row (by decide), k70]; exact tR.2⟩, nl, D2⟩⟩⟩⟩
          have x1 : Sc3.1 54 1 = Sc.1 54 1 := by rw [hC, pI_idx (by decide), a3.2.1 54 (by decide), pI_row (by decide), k54]
          have x2 : Sc3.1 55 = Sc.1 55 := by rw [hC, pI_row (by decide), a3.2.1 55 (by decide), pI_row (by decide), k55]
          rcases tS with ⟨y, z⟩ | ⟨y, m, z, v⟩
          · exact Or.inl ⟨by omega, by rw [x1]; exact z⟩
          · exact Or.inr ⟨by omega, m, z, v.keep x1 x2 (by rw [hM', pI_idx (by decide), a4.2.1 15 (by decide), n2.2.1 15 (by decide)]) (by rw [hM', pI_row (by decide), (a4.1 2 (by decide) (fun q => q)).1, (n2.1 2 (by decide) (fun q => q)).1])⟩
        · exact ⟨0, Sc3, g + 2, Sm4, cA 0 (Or.inl rfl) hr, mA, fA, bA, F4, Or.inl ⟨rfl, bk t L (we t L f), hq', by rw [hC0, pI_row (by decide)]; exact jc, g8.trans jm⟩⟩
    · by_cases hb : g / 2 ^ 2 % 2 = 1
      · refine ex (pI Sc1 1 2 f) (f1.pI (Or.inl rfl)) (Bt.of (by rw [pI_row (by decide)]; exact c74')) pI_eq ?_ (m57y 2 (by decide) k hb)
        rw [e0 (by omega), e31 (by omega)]
        unfold f_X6_readClause_71
        rw [cl 2 (by decide), bI_of, cI01, i01, if_pos (by omega)]
        unfold gI
        dsimp only
        rw [k17, cI_of (by omega) (by omega) (by omega) (by omega), if_neg (by omega), e110, if_neg (by omega)]
      · have fR : FrR (fun k => k = 7) Sc1 (pI Sc1 1 7 1) := FrR.refl.w rfl
        have J3 : JT (pI Sc1 1 7 1) Sm2 L t (we t L f) := ⟨h1.r fR, J2.2.1, J2.2.2.1, by rw [pI_idx (by decide)]; exact c2, by rw [pI_idx (by decide)]; exact J2.2.2.2.2.1, J2.2.2.2.2.2.1, J2.2.2.2.2.2.2⟩
        obtain ⟨r, Sc2, x, Sm3, a1, a2, a3, a4, a5, a6⟩ := num_both N M J3 (hi := 9) (by omega) (by omega) (by omega)
        obtain ⟨Sm4, hM'⟩ : ∃ Sm4, Sm4 = pI Sm3 0 18 x := ⟨_, rfl⟩
        have F4 : FrT trM kX Sm Sm4 := by
          rw [hM']
          exact (F2.trans a4 (fun _ q => q) (fun _ q => q.elim) (fun _ q => q) (fun k q => by rcases q with q | q; exact Or.inl q; exact Or.inr (Or.inl q)) (A'' := trM) (F'' := kX)).w (Or.inr (Or.inr (by omega)))
        have mA : f_X11_clause M Sm (g : Int) = some (((g + 4 : Nat) : Int), Sm4) := by
          rw [mc, m57n 2 (by decide) k (by omega)]
          unfold f_X11_clause_96
          rw [n1, bV_of, cI_of (by omega) (by omega) (by omega) (by omega), if_neg (by decide), if_neg (by decide), if_pos (by decide), a2, bI_of]
          unfold uI
          rw [← hM']
          have z := m168_of (S := Sm4) M hg (i := 2) (by decide)
          rw [if_neg hb] at z
          exact z
        obtain ⟨Sc3, hC0⟩ : ∃ Sc3, Sc3 = pI Sc2 70 1 (Sc2.1 1 3) := ⟨_, rfl⟩
        have g8 : Sm4.1 0 8 = Sm3.1 0 8 := by rw [hM', pI_idx (by decide)]
        have fA : Fr trA Sc Sc3 := by
          rw [hC0]
          exact ((f1.trans ((fR.fr (A := trA) (Or.inl rfl)).trans (a3.fr (A := trA) (Or.inl rfl)) (fun _ q => q) (fun _ q => q) (C := trA)) (fun _ q => q) (fun _ q => q) (C := trA)).pI (by decide))
        have bA : Bt Sc Sc3 := Bt.of (by rw [hC0, pI_row (by decide), a3.2.1 74 (by decide), pI_row (by decide)]; exact c74')
        have cA : ∀ q, q = 0 ∨ q = 1 → r = q → f_X6_readClause N Sc 1 54 70 = some (q, Sc3) := fun q hq e => by
          rw [e0 (by omega), e31 (by omega)]
          unfold f_X6_readClause_71
          rw [cl 2 (by decide), bI_of, cI01, i01, if_pos (by omega)]
          unfold gI
          dsimp only
          rw [k17, cI_of (by omega) (by omega) (by omega) (by omega), if_pos (by omega), uZ_of (Or.inr rfl), a1, bI_of]
          unfold uI
          rw [← hC0, e]
          exact rZ_of hq
        rcases a6 with ⟨_, hr, b3, e, he, J4⟩ | ⟨_, hr, hq', jc, jm⟩
        · have hC : Sc3 = pI Sc2 70 1 x := by rw [hC0, b3]
          have J5 : JT Sc3 Sm4 L t e := by
            rw [hC, hM']
            exact (J4.mE (Sm' := pI Sm3 0 18 x) (fun k hk => pI_idx (by omega)) (pI_row (by decide)) rfl).c (fun j hj => pI_row (by omega))
          have D2 : LnD Sc3 Sm4 nl := D.keep (by rw [hC, pI_idx (by decide), a3.2.1 70 (by decide), pI_row (by decide)]; rw [k70]) (by rw [hC, pI_row (by decide), a3.2.1 71 (by decide), pI_row (by decide), c6.2.1 71 (by decide)]) (by rw [hC, pI_row (by decide), a3.2.1 72 (by decide), pI_row (by decide), c6.2.1 72 (by decide)]) (by rw [hC, pI_row (by decide), a3.2.1 74 (by decide), pI_row (by decide), c6.2.1 74 (by decide)]) (by rw [hM', pI_idx (by decide), a4.2.1 16 (by decide), n2.2.1 16 (by decide)]) (by rw [hM', pI_row (by decide), (a4.1 3 (by decide) (fun q => q)).1, (n2.1 3 (by decide) (fun q => q)).1]) (by rw [hM', pI_row (by decide), (a4.1 4 (by decide) (fun q => q)).1, (n2.1 4 (by decide) (fun q => q)).1]) (by rw [hM']; show Sm3.2 5 = _; rw [(a4.1 5 (by decide) (fun q => q)).2, (n2.1 5 (by decide) (fun q => q)).2])
          refine ⟨1, Sc3, g + 4, Sm4, cA 1 (Or.inr rfl) hr, mA, fA, bA, F4, Or.inr ⟨rfl, e, by omega, Or.inl ⟨J5, ⟨by omega, by rw [hC, pI_row (i := 70) (by decide), a3.2.2 6 (by decide), pI_idx (by decide), k16]; omega, by rw [hC, pI_row (i := 70) (by decide), a3.2.2 7 (by decide), pI_eq]; omega, ?_, ⟨by rw [hC, hM', pI_row (i := 70) (by decide), pI_idx (by decide), a4.2.1 17 (by decide), n2.2.1 17 (by decide), a3.2.1 54 (by decide), pI_row (by decide), k54]; exact tN.1, by rw [hC, pI_row (i := 70) (by decide), a3.2.1 54 (by decide), pI_row (by decide), k54]; exact tN.2⟩, ⟨by rw [hC, hM', pI_eq, pI_eq], by rw [hC, pI_eq]; exact a5⟩, nl, D2⟩⟩⟩⟩
          have x1 : Sc3.1 54 1 = Sc.1 54 1 := by rw [hC, pI_row (i := 70) (by decide), a3.2.1 54 (by decide), pI_row (by decide), k54]
          have x2 : Sc3.1 55 = Sc.1 55 := by rw [hC, pI_row (by decide), a3.2.1 55 (by decide), pI_row (by decide), k55]
          rcases tS with ⟨y, z⟩ | ⟨y, m, z, v⟩
          · exact Or.inl ⟨by omega, by rw [x1]; exact z⟩
          · exact Or.inr ⟨by omega, m, z, v.keep x1 x2 (by rw [hM', pI_idx (by decide), a4.2.1 15 (by decide), n2.2.1 15 (by decide)]) (by rw [hM', pI_row (by decide), (a4.1 2 (by decide) (fun q => q)).1, (n2.1 2 (by decide) (fun q => q)).1])⟩
        · exact ⟨0, Sc3, g + 4, Sm4, cA 0 (Or.inl rfl) hr, mA, fA, bA, F4, Or.inl ⟨rfl, bk t L (we t L f), hq', by rw [hC0, pI_row (by decide)]; exact jc, g8.trans jm⟩⟩
    · have m57 : f_X11_clause_57 M g kd Sm = (if nl = 8 then f_X11_clause_90 M g Sm else f_X11_clause_96 M g 3 Sm) := by
        unfold f_X11_clause_57
        rw [cI_of (by omega) (by omega) (by omega) (by omega), if_neg (by omega), cI_of (by omega) (by omega) (by omega) (by omega), if_pos (by omega), k]
        unfold f_X11_clause_76 gI
        dsimp only
        rw [D.2.2.1, cI_of (by omega) (by omega) (by omega) (by omega), if_pos rfl, cI_of (by omega) (by omega) (by omega) (by omega)]
      by_cases h8 : nl = 8
      · refine ex (pI Sc1 1 2 f) (f1.pI (Or.inl rfl)) (Bt.of (by rw [pI_row (by decide)]; exact c74')) pI_eq ?_ (by rw [m57, if_pos h8])
        rw [e0 (by omega), e31 (by omega), e71 (by omega), e110, if_pos k, if_pos (by omega)]
      · have D2 : LnD Sc1 Sm2 nl := D1.keep rfl rfl rfl rfl (n2.2.1 16 (by decide)) (n2.1 3 (by decide) (fun q => q)).1 (n2.1 4 (by decide) (fun q => q)).1 (n2.1 5 (by decide) (fun q => q)).2
        obtain ⟨r, Sc', Sm', a1, a2, a3, aB, a4, a5, a6, a7, a8⟩ := lineT_both N M J2 D2 (by omega) (by omega) (by omega)
        have F4 : FrT trM kX Sm Sm' := F2.trans a7 (fun _ q => q) (fun j q => by have q : 3 ≤ j ∧ j ≤ 5 := q; show 2 ≤ j ∧ j ≤ 5; omega) (fun _ q => q) (fun k q => by rcases q with q | q | q; exact Or.inl q; exact Or.inr (Or.inl q); exact Or.inr (Or.inr (by omega)))
        obtain ⟨g', hg', hh⟩ : ∃ g', g' = (if g / 2 ^ 3 % 2 = 1 then g else g + 2 ^ 3) ∧ (g' < 16 ∧ g' % 2 = g % 2 ∧ g' / 2 % 2 = g / 2 % 2 ∧ g' / 4 % 2 = g / 4 % 2) := by
          by_cases q : g / 2 ^ 3 % 2 = 1
          · exact ⟨g, by rw [if_pos q], by omega⟩
          · exact ⟨g + 2 ^ 3, by rw [if_neg q], by omega⟩
        have mA : f_X11_clause M Sm (g : Int) = some (((g' : Nat) : Int), Sm') := by
          rw [mc, m57, if_neg h8]
          unfold f_X11_clause_96
          rw [n1, bV_of, cI_of (by omega) (by omega) (by omega) (by omega), if_neg (by decide), if_neg (by decide), if_neg (by decide), a2, bV_of, hg']
          exact m168_of (S := Sm') M hg (i := 3) (by decide)
        have fA : Fr trA Sc Sc' := f1.trans a3 (fun _ q => q) (fun j q => by rcases q with q | q; exact Or.inl q; exact Or.inr (Or.inr (Or.inr q)))
        have bA : Bt Sc Sc' := (Bt.of c74').trans aB
        have cA : ∀ q, q = 0 ∨ q = 1 → r = q → f_X6_readClause N Sc 1 54 70 = some (q, Sc') := fun q hq e => by
          rw [e0 (by omega), e31 (by omega), e71 (by omega), e110, if_pos k, if_neg (by omega), a1, bI_of, e, rZ_of hq]
        rcases a8 with ⟨hr, jf⟩ | ⟨hr, ⟨e, he, J5⟩, D5⟩
        · exact ⟨0, Sc', g', Sm', cA 0 (Or.inl rfl) hr, mA, fA, bA, F4, Or.inl ⟨rfl, jf⟩⟩
        · refine ⟨1, Sc', g', Sm', cA 1 (Or.inr rfl) hr, mA, fA, bA, F4, Or.inr ⟨rfl, e, by omega, Or.inl ⟨J5, hh.1, by rw [a5, k16, hh.2.2.1], by rw [a6, k17, hh.2.2.2], ?_, ?_, ?_, nl + 1, D5⟩⟩⟩
          · have x1 : Sc'.1 54 1 = Sc.1 54 1 := by rw [a3.2 54 (by decide), k54]
            rcases tS with ⟨y, z⟩ | ⟨y, m, z, v⟩
            · exact Or.inl ⟨by omega, by rw [x1]; exact z⟩
            · exact Or.inr ⟨by omega, m, z, v.keep x1 (by rw [a3.2 55 (by decide), k55]) (by rw [a7.2.1 15 (by decide), n2.2.1 15 (by decide)]) (by rw [(a7.1 2 (by decide) (by decide)).1, (n2.1 2 (by decide) (fun q => q)).1])⟩
          · rw [a3.2 54 (by decide), k54, a7.2.1 17 (by decide), n2.2.1 17 (by decide)]; exact tN
          · rw [a4, k70, a7.2.1 18 (by decide), n2.2.1 18 (by decide)]; exact tR
  · refine ex Sc1 f1 (Bt.of c74') (by rw [c5, if_neg gw]) ?_ (n57 ?_)
    · unfold f_X6_readClause
      rw [c1, if_neg gw, bI_of, cI_of (by omega) (by omega) (by omega) (by omega), if_pos rfl, rZ_of (Or.inl rfl)]
    · by_cases q : kd = -1
      · exact q
      · exact absurd ((hw kd.toNat (by omega)).mpr (by omega)).1 u4
end TRACE
