/-! what is asked: unlike, peak -/
section ASK6
variable {S Sc Sm : S2} {n z nl r B no zo : Int} {s pl so : Int → Int}
/-- the life of peak i, 0 if there is none -/
noncomputable def ulH (n : Int) (s : Int → Int) (i : Int) : Int := if i < pkC n s then qL n s i else 0
noncomputable def ulF (n : Int) (s : Int → Int) (no : Int) (so : Int → Int) (d : Nat) (i a : Int) : Int := fld (fun a i => a + dst (ulH n s i) (ulH no so i)) d i a
theorem ulH_in (h1 : 1 ≤ n) (hn : n ≤ 48) (hb : CvB n s) {i : Int} (hi : 0 ≤ i) : 0 ≤ ulH n s i ∧ ulH n s i ≤ 999 := by
  unfold ulH
  by_cases g : i < pkC n s
  · rw [if_pos g]; exact (q_in h1 hn hb hi g).2.2.1
  · rw [if_neg g]; omega
theorem ulF_0 : ∀ (d : Nat) (i a : Int), pkC n s ≤ i → pkC no so ≤ i → ulF n s no so d i a = a
  | 0, i, a, _, _ => rfl
  | d + 1, i, a, h1, h2 => by
    show ulF n s no so d (i + 1) (a + dst (ulH n s i) (ulH no so i)) = a
    have e1 : ulH n s i = 0 := if_neg (by omega)
    have e2 : ulH no so i = 0 := if_neg (by omega)
    rw [e1, e2, show a + dst 0 0 = a by unfold dst; omega]
    exact ulF_0 d (i + 1) a (by omega) (by omega)
theorem unlikeC_loop (h1 : 1 ≤ n) (hn : n ≤ 48) (hb : CvB n s) (o1 : 1 ≤ no) (on : no ≤ 48) (ob : CvB no so) (hP : CP S 6 n s z) (hO : CP S 56 no so zo) {all : Int} (ha : 0 ≤ all ∧ all ≤ 48) : ∀ (d N : Nat) (i a : Int), 0 ≤ i → i + d = all → d < N → f_X10_unlike_45 N all a i S = some (ulF n s no so d i a, S) := by
  have e1 := hP.1
  have e2 := hO.1
  have p1 := (pk_facts h1 hn hb).1
  have p2 := (pk_facts o1 on ob).1
  intro d
  induction d with
  | zero =>
    intro N i a h0 hi hN
    obtain ⟨N, rfl⟩ : ∃ M, N = M + 1 := ⟨N - 1, by omega⟩
    rw [f_X10_unlike_45]
    simp (disch := omega) only [gI, uI, cI_of, aI_of, sI_of, mnI_of, mxI_of, abI_of, dvI_of, rmI_of, bI_of, bV_of, rI, rV, rL, rP, rT, rZ_of, rC_of, if_pos, if_neg, if_true, if_false]
    rfl
  | succ d ih =>
    intro N i a h0 hi hN
    obtain ⟨N, rfl⟩ : ∃ M, N = M + 1 := ⟨N - 1, by omega⟩
    have q1 := ulH_in h1 hn hb h0
    have q2 := ulH_in o1 on ob h0
    show _ = some (ulF n s no so d (i + 1) (a + dst (ulH n s i) (ulH no so i)), S)
    rw [← ih N (i + 1) (a + dst (ulH n s i) (ulH no so i)) (by omega) (by omega) (by omega)]
    have s98 : ∀ y, y = ulH no so i → f_X10_unlike_98 (f_X10_unlike_45 N) N all a i (ulH n s i) y S = f_X10_unlike_45 N all (a + dst (ulH n s i) (ulH no so i)) (i + 1) S := fun y hy => by
      subst hy
      rw [f_X10_unlike_98, abI_of (by omega) (by omega)]
      rw [show max (ulH n s i - ulH no so i) (-(ulH n s i - ulH no so i)) = dst (ulH n s i) (ulH no so i) by unfold dst; omega]
    have s73 : ∀ x, x = ulH n s i → f_X10_unlike_73 (f_X10_unlike_45 N) N all a i x S = f_X10_unlike_45 N all (a + dst (ulH n s i) (ulH no so i)) (i + 1) S := fun x hx => by
      subst hx
      rw [f_X10_unlike_73]
      by_cases g : i < pkC no so
      · have el : f_X5_persistenceOf N S 56 i = some (qL no so i, S) := persC_of N hO o1 on ob h0 g
        simp (disch := omega) only [gI, e2, cI_of, if_neg, el, bI_of]
        exact s98 _ (if_pos g).symm
      · simp (disch := omega) only [gI, e2, cI_of, if_pos]
        exact s98 _ (if_neg g).symm
    rw [f_X10_unlike_45]
    by_cases g : i < pkC n s
    · have el : f_X5_persistenceOf N S 6 i = some (qL n s i, S) := persC_of N hP h1 hn hb h0 g
      simp (disch := omega) only [gI, e1, cI_of, if_neg, el, bI_of]
      exact s73 _ (if_pos g).symm
    · simp (disch := omega) only [gI, e1, cI_of, if_neg, if_pos]
      exact s73 _ (if_neg g).symm
theorem livesM_loop (o1 : 1 ≤ no) (on : no ≤ 48) (ob : CvB no so) : ∀ (d N : Nat) (i : Int) (S : S2), 0 ≤ i → i + d = 48 → d < N → CvM S 8 no so zo → MPk S no so zo → (∀ k, 0 ≤ k → k < i → S.1 26 k = ulH no so k) → ∃ S', (∀ K, f_X11_unlike_45 K N i S = K S') ∧ (∀ k, 0 ≤ k → k < 48 → S'.1 26 k = ulH no so k) ∧ FrM (fun j => j = 26) noF S S' := by
  have p2 := (pk_facts o1 on ob).1
  intro d
  induction d with
  | zero =>
    intro N i S h0 hi hN hc hM h
    obtain ⟨N, rfl⟩ : ∃ M, N = M + 1 := ⟨N - 1, by omega⟩
    refine ⟨S, fun K => ?_, fun k a b => h k a (by omega), FrM.refl⟩
    rw [f_X11_unlike_45]
    simp (disch := omega) only [gI, uI, cI_of, aI_of, sI_of, mnI_of, mxI_of, abI_of, dvI_of, rmI_of, bI_of, bV_of, rI, rV, rL, rP, rT, rZ_of, rC_of, if_pos, if_neg, if_true, if_false]
  | succ d ih =>
    intro N i S h0 hi hN hc hM h
    obtain ⟨N, rfl⟩ : ∃ M, N = M + 1 := ⟨N - 1, by omega⟩
    have e35 := hM.1.1
    have fr : FrM (fun j => j = 26) noF S (pI S 26 i (ulH no so i)) := FrM.wI (i := 26) FrM.refl rfl (by decide)
    obtain ⟨S', f1, f2, f3⟩ := ih N (i + 1) (pI S 26 i (ulH no so i)) (by omega) (by omega) (by omega) (hc.keptM fr (by decide) (by decide)) (hM.kept fr (by decide) (by decide) (by decide) (by decide) (by decide) (by decide) (fun q => q) (fun q => q)) (fun k a b => by
      by_cases g : k = i
      · rw [g, pI_eq]
      · rw [pI_idx g]; exact h k a (by omega))
    refine ⟨S', fun K => ?_, f2, fr.trans f3 (fun _ h => h) (fun _ h => h) (fun _ h => h) (fun _ h => h)⟩
    rw [← f1 K, f_X11_unlike_45]
    by_cases g : i < pkC no so
    · have el := lifeK_of N hc hM o1 on ob h0 g
      have e : ulH no so i = qL no so i := if_pos g
      rw [e]
      simp (disch := omega) only [e35, el, f_X11_unlike_73, gI, uI, cI_of, aI_of, sI_of, mnI_of, mxI_of, abI_of, dvI_of, rmI_of, bI_of, bV_of, rI, rV, rL, rP, rT, rZ_of, rC_of, if_pos, if_neg, if_true, if_false]
    · have e : ulH no so i = 0 := if_neg g
      rw [e]
      simp (disch := omega) only [e35, f_X11_unlike_73, gI, uI, cI_of, aI_of, sI_of, mnI_of, mxI_of, abI_of, dvI_of, rmI_of, bI_of, bV_of, rI, rV, rL, rP, rT, rZ_of, rC_of, if_pos, if_neg, if_true, if_false]
theorem unlikeM_loop (h1 : 1 ≤ n) (hn : n ≤ 48) (hb : CvB n s) (o1 : 1 ≤ no) (on : no ≤ 48) (ob : CvB no so) (hc : CvM S 8 n s z) (hM : MPk S n s z) (hl : ∀ k, 0 ≤ k → k < 48 → S.1 26 k = ulH no so k) : ∀ (d N : Nat) (i a : Int), 0 ≤ i → i + d = 48 → d < N → f_X11_unlike_92 N a i S = some (ulF n s no so d i a, S) := by
  have e35 := hM.1.1
  have p1 := (pk_facts h1 hn hb).1
  intro d
  induction d with
  | zero =>
    intro N i a h0 hi hN
    obtain ⟨N, rfl⟩ : ∃ M, N = M + 1 := ⟨N - 1, by omega⟩
    rw [f_X11_unlike_92]
    simp (disch := omega) only [gI, uI, cI_of, aI_of, sI_of, mnI_of, mxI_of, abI_of, dvI_of, rmI_of, bI_of, bV_of, rI, rV, rL, rP, rT, rZ_of, rC_of, if_pos, if_neg, if_true, if_false]
    rfl
  | succ d ih =>
    intro N i a h0 hi hN
    obtain ⟨N, rfl⟩ : ∃ M, N = M + 1 := ⟨N - 1, by omega⟩
    have q1 := ulH_in h1 hn hb h0
    have q2 := ulH_in o1 on ob h0
    have e26 := hl i h0 (by omega)
    show _ = some (ulF n s no so d (i + 1) (a + dst (ulH n s i) (ulH no so i)), S)
    rw [← ih N (i + 1) (a + dst (ulH n s i) (ulH no so i)) (by omega) (by omega) (by omega)]
    have s122 : ∀ y, y = ulH n s i → f_X11_unlike_122 (f_X11_unlike_92 N) N i y (ulH no so i) a S = f_X11_unlike_92 N (a + dst (ulH n s i) (ulH no so i)) (i + 1) S := fun y hy => by
      subst hy
      rw [f_X11_unlike_122, apart_of N (by omega) (by omega) (by omega) (by omega), bI_of]
      rw [show max (ulH no so i - ulH n s i) (ulH n s i - ulH no so i) = dst (ulH n s i) (ulH no so i) by unfold dst; omega]
    rw [f_X11_unlike_92]
    by_cases g : i < pkC n s
    · have el := lifeK_of N hc hM h1 hn hb h0 g
      simp (disch := omega) only [gI, cI_of, if_neg, aI_of, e26, e35, el, bI_of]
      exact s122 _ (if_pos g).symm
    · simp (disch := omega) only [gI, cI_of, if_neg, if_pos, aI_of, e26, e35]
      exact s122 _ (if_neg g).symm
theorem unlike_both (N M : Nat) (hN : 2000 ≤ N) (hM : 2000 ≤ M) (hB : B ≤ 50000) (H : RelB B Sc Sm) : ∃ (v : Int) (Sc' Sm' : S2), f_X10_unlike N Sc = some (v, Sc') ∧ f_X11_unlike M Sm = some (v, Sm') ∧ RelB (B + 40) Sc' Sm' := by
  obtain ⟨-, -, -, ⟨n, z, s, cur, g4'⟩, ⟨nl, r, pl, ln⟩, -, g7⟩ := id H
  have i29 := cur.2.2.2.2.2.1
  obtain ⟨⟨n0, n48⟩, hb, hz, hc, hm, hi, hP, hQ⟩ := id cur
  rcases g7 with ⟨h1, h2⟩ | ⟨h1, no, zo, T, so, e, o1, o2, o3, o4, o5, o6, o7, o8⟩
  · refine ⟨-1, Sc, Sm, ?_, ?_, H.up (by omega)⟩
    · unfold f_X10_unlike
      simp (disch := omega) only [h1, gI, uI, cI_of, aI_of, sI_of, mnI_of, mxI_of, abI_of, dvI_of, rmI_of, bI_of, bV_of, rI, rV, rL, rP, rT, rZ_of, rC_of, if_pos, if_neg, if_true, if_false]
    · unfold f_X11_unlike
      simp (disch := omega) only [h2, gI, uI, cI_of, aI_of, sI_of, mnI_of, mxI_of, abI_of, dvI_of, rmI_of, bI_of, bV_of, rI, rV, rL, rP, rT, rZ_of, rC_of, if_pos, if_neg, if_true, if_false]
  · have n1 := g4' (Or.inl h1)
    have hP := hP n1
    have e48 := o4.1
    have p1 := (pk_facts n1 n48 hb).1
    have p2 := (pk_facts o1.1 o1.2 o2).1
    obtain ⟨hLB, -, hLM, -⟩ := id ln
    -- the class
    obtain ⟨C1, c1, c2, c3⟩ := findC_of N (c0 := 56) (c := 48) (by unfold Off; omega) o4 o2 o1.1 o1.2 o3.1 o3.2 (by omega)
    have hP1 := hP.kept c3 (fun j x y q => by have q : 56 ≤ j ∧ j ≤ 56 + 12 := q; omega)
    have e60 := hP1.1
    have e560 := c2.1
    have kc : KC Sc C1 := KC.of c3 (fun j q => by have q : 56 ≤ j ∧ j ≤ 56 + 12 := q; show j = 1 ∨ j = 19 ∨ j = 23 ∨ (54 ≤ j ∧ j ≤ 73) ∨ (75 ≤ j ∧ j ≤ 81); omega)
    have lc := unlikeC_loop n1 n48 hb o1.1 o1.2 o2 hP1 c2 (all := max (pkC n s) (pkC no so)) (by omega) (max (pkC n s) (pkC no so)).toNat N 0 0 (by omega) (by omega) (by omega)
    -- the reference
    obtain ⟨M1, a1, a2, a3, a4⟩ := putAside_lay 50 M 0 Sm (by omega) (by omega) (by omega)
    obtain ⟨M2, b1, b2, b3, b4⟩ := unlikeLay 50 M 0 M1 (by omega) (by omega) (by omega)
    have m24 : M1.1 24 = Sm.1 24 := a4.2.1 24 (by decide) (by decide)
    have hm2 : CvM M2 8 no so zo := CvG.congr (g := Sm.1 24) o5 o1.2 (fun k x y => by rw [b2 k x y, m24])
    have hL2 := (hLM.kept a4 (by decide) (fun q => q) (fun q => q)).kept b4 (by decide) (fun q => q) (fun q => q)
    obtain ⟨M3, d1, d2, d3, d4⟩ := findsM_of M hm2 o2 o1.1 o1.2 o3.1 o3.2 hLB hL2 (by omega)
    have hm3 := hm2.keptM d4 (by decide) (by decide)
    obtain ⟨M4, l1, l2, l3⟩ := livesM_loop o1.1 o1.2 o2 48 M 0 M3 (by omega) (by omega) (by omega) hm3 d2 (fun k x y => by omega)
    obtain ⟨M5, r1, r2, r3, r4⟩ := bringBack_lay 50 M 0 M4 (by omega) (by omega) (by omega)
    have row8 : M5.1 8 = Sm.1 8 := by
      funext k
      by_cases g : 0 ≤ k ∧ k < 50
      · rw [r2 k g.1 g.2, l3.2.1 25 (by decide) (by decide), d4.2.1 25 (by decide) (by decide), b4.2.1 25 (by decide) (by decide), a2 k g.1 g.2]
      · rw [r3 k (by omega), l3.2.1 8 (by decide) (by decide), d4.2.1 8 (by decide) (by decide), b3 k (by omega), a4.2.1 8 (by decide) (by decide)]
    have hm5 : CvM M5 8 n s z := CvG.congr (g := Sm.1 8) hm n48 (fun k x y => by rw [row8])
    have hL5 := ((hL2.kept d4 (by decide) (by decide) (by decide)).kept l3 (by decide) (fun q => q) (fun q => q)).kept r4 (by decide) (fun q => q) (fun q => q)
    obtain ⟨M6, t1, t2, t3, t4⟩ := findsM_of M hm5 hb n1 n48 hz.1 hz.2 hLB hL5 (by omega)
    have hm6 := hm5.keptM t4 (by decide) (by decide)
    have l26 : ∀ k, 0 ≤ k → k < 48 → M6.1 26 k = ulH no so k := fun k x y => by rw [t4.2.1 26 (by decide) (by decide), r4.2.1 26 (by decide) (by decide)]; exact l2 k x y
    have lm := unlikeM_loop n1 n48 hb o1.1 o1.2 o2 hm6 t2 l26 48 M 0 0 (by omega) (by omega) (by omega)
    have same : ulF n s no so 48 0 0 = ulF n s no so (max (pkC n s) (pkC no so)).toNat 0 0 := by
      have e := fld_add (g := fun a i => a + dst (ulH n s i) (ulH no so i)) (max (pkC n s) (pkC no so)).toNat (48 - (max (pkC n s) (pkC no so)).toNat) 0 0
      rw [show (max (pkC n s) (pkC no so)).toNat + (48 - (max (pkC n s) (pkC no so)).toNat) = 48 by omega] at e
      have e : ulF n s no so 48 0 0 = ulF n s no so (48 - (max (pkC n s) (pkC no so)).toNat) (0 + ((max (pkC n s) (pkC no so)).toNat : Int)) (ulF n s no so (max (pkC n s) (pkC no so)).toNat 0 0) := e
      rw [e, ulF_0 _ _ _ (by omega) (by omega)]
    rw [same] at lm
    have k1 : FrM (fun j => j = 8 ∨ (13 ≤ j ∧ j ≤ 21) ∨ j = 25 ∨ j = 26) findsF Sm M6 := by
      refine (((((a4.trans b4 (fun j q => by have q : j = 25 := q; omega) (fun j q => by have q : j = 8 := q; omega) (fun _ q => q.elim) (fun _ q => q.elim) (C := fun j => j = 8 ∨ (13 ≤ j ∧ j ≤ 21) ∨ j = 25 ∨ j = 26) (K := findsF)).trans d4 (fun _ q => q) (fun j q => by have q : 13 ≤ j ∧ j ≤ 21 := q; omega) (fun _ q => q) (fun _ q => q) (C := fun j => j = 8 ∨ (13 ≤ j ∧ j ≤ 21) ∨ j = 25 ∨ j = 26) (K := findsF)).trans l3 (fun _ q => q) (fun j q => by have q : j = 26 := q; omega) (fun _ q => q) (fun _ q => q.elim) (C := fun j => j = 8 ∨ (13 ≤ j ∧ j ≤ 21) ∨ j = 25 ∨ j = 26) (K := findsF)).trans r4 (fun _ q => q) (fun j q => by have q : j = 8 := q; omega) (fun _ q => q) (fun _ q => q.elim) (C := fun j => j = 8 ∨ (13 ≤ j ∧ j ≤ 21) ∨ j = 25 ∨ j = 26) (K := findsF))).trans t4 (fun _ q => q) (fun j q => by have q : 13 ≤ j ∧ j ≤ 21 := q; omega) (fun _ q => q) (fun _ q => q)
    have km : KM Sm M6 := ⟨fun j hj => by
      by_cases g : j = 8
      · rw [g, t4.2.1 8 (by decide) (by decide)]; exact row8
      · exact k1.2.1 j (by omega) (fun q => by have q : j = 8 ∨ (13 ≤ j ∧ j ≤ 21) ∨ j = 25 ∨ j = 26 := q; omega), by rw [k1.1], fun k _ => by rw [k1.2.1 6 (by decide) (by decide)], fun k _ => by rw [k1.2.1 7 (by decide) (by decide)], fun k hk => k1.2.2 k (fun q => by have q : k = 35 ∨ k = 38 ∨ k = 41 := q; omega)⟩
    refine ⟨ulF n s no so (max (pkC n s) (pkC no so)).toNat 0 0, C1, M6, ?_, ?_, (H.keep kc km).up (by omega)⟩
    · unfold f_X10_unlike
      simp (disch := omega) only [gI, e48, cI_of, if_neg, c1, bV_of, e60, e560, mxI_of]
      exact lc
    · unfold f_X11_unlike f_X11_putAside
      simp (disch := omega) only [gI, h1, cI_of, if_neg, a1, bV_of]
      rw [b1, f_X11_unlike_39, d1, bV_of, l1, f_X11_unlike_80]
      unfold f_X11_bringBack
      rw [r1, bV_of, t1, bV_of]
      exact lm
theorem op_unlike (hB : B ≤ 50000) : Op_unlike (RelB B) (RelB (B + 40)) := fun Sc Sm H => ⟨2000, 2000, unlike_both 2000 2000 (by decide) (by decide) hB H⟩
end ASK6
