/-! run -/
section RUN
variable {Sc Sm : S2} {n z nl r B j : Int} {s pl : Int → Int}
abbrev runA : Nat → Prop := fun j => 54 ≤ j ∧ j ≤ 69
theorem run_loop (M0 : Nat) (hj : 0 ≤ j ∧ j < 4) (hLB : LnB nl r pl) {x2 : Int} : ∀ (d N M : Nat) (i n z : Int) (s : Int → Int) (Sc Sm : S2), 0 ≤ i → i + d = Sc.1 (scC j) 0 → d + 1000 < N → d + 1000 < M → (1 ≤ n ∧ n ≤ 48) → CvB n s → (0 ≤ z ∧ z ≤ 999) → CvC Sc 54 n s z → CP Sc 56 n s z → MCur Sm n s z nl r pl → OneS Sc Sm (scC j) j → ∃ (v n' z' : Int) (s' : Int → Int) (Sc' Sm' : S2), (∀ K, f_X10_run_60 j.toNat K N x2 i Sc = K x2 v Sc') ∧ f_X11_goSteps_2 (f_X11_goSteps_130 M0) M j 0 i Sm = some (v, Sm') ∧ (0 ≤ v ∧ v ≤ Sc.1 (scC j) 0) ∧ (1 ≤ n' ∧ n' ≤ 48) ∧ CvB n' s' ∧ (0 ≤ z' ∧ z' ≤ 999) ∧ CP Sc' 56 n' s' z' ∧ MCur Sm' n' s' z' nl r pl ∧ Fr runA Sc Sc' ∧ FrM flatMA findsF Sm Sm' ∧ (∀ k, 50 ≤ k → Sm'.1 8 k = Sm.1 8 k) := by
  have eN : scC j = 32 + 4 * j.toNat := rfl
  intro d
  induction d with
  | zero =>
    intro N M i n z s Sc Sm h0 hi hN hM hn hb hz hc hP hm hO
    obtain ⟨N, rfl⟩ : ∃ M, N = M + 1 := ⟨N - 1, by omega⟩
    obtain ⟨M, rfl⟩ : ∃ M', M = M' + 1 := ⟨M - 1, by omega⟩
    obtain ⟨⟨k1, k12⟩, e7, hst⟩ := id hO
    refine ⟨i, n, z, s, Sc, Sm, fun K => ?_, ?_, by omega, hn, hb, hz, hP, hm, Fr.refl, FrM.refl, fun _ _ => rfl⟩
    · rw [f_X10_run_60]
      unfold gI
      dsimp only
      rw [show 32 + 4 * j.toNat = scC j from rfl, cI_of (by omega) (by omega) (by omega) (by omega), if_pos (by omega)]
    · rw [f_X11_goSteps_2, aI_of hj.1 (by omega), e7, cI_of (by omega) (by omega) (by omega) (by omega), if_pos (by omega), f_X11_goSteps_130, aI_of hj.1 (by omega), e7, show i = Sc.1 (scC j) 0 by omega]; rfl
  | succ d ih =>
    intro N M i n z s Sc Sm h0 hi hN hM hn hb hz hc hP hm hO
    obtain ⟨N, rfl⟩ : ∃ M, N = M + 1 := ⟨N - 1, by omega⟩
    obtain ⟨M, rfl⟩ : ∃ M', M = M' + 1 := ⟨M - 1, by omega⟩
    obtain ⟨⟨k1, k12⟩, e7, hst⟩ := id hO
    have st := hst i h0 (by omega)
    have sb := st.in
    have se := st.E
    have so := st.2.1
    have er := refusal_of N hc (by omega) hn.2 (sort := Sc.1 (scC j + 1) i) (a := Sc.1 (scC j + 2) i) (b := Sc.1 (scC j + 3) i) (by omega) (by omega) (by omega) (by omega) (by omega) (by omega)
    have ew := whyNot_of M hm.1 hm.2.2 hn.1 hn.2 (sort := Sm.1 6 (3 * (12 * j + i))) (a := Sm.1 6 (3 * (12 * j + i) + 1)) (b := Sm.1 6 (3 * (12 * j + i) + 2)) (by have := st.1; omega) (by have := st.1; omega) (by omega) (by omega) (by omega) (by omega)
    have aq := ac_eq (n := n) (z := z) (s := s) se so
    rw [st.1, aq.1] at ew
    have rc := rf_cases (n := n) (so := Sc.1 (scC j + 1) i) (a := Sc.1 (scC j + 2) i) (b := Sc.1 (scC j + 3) i)
    have clsR : ∀ K, f_X10_run_60 j.toNat K (N + 1) x2 i Sc = cI (rfF n (Sc.1 (scC j + 1) i) (Sc.1 (scC j + 2) i) (Sc.1 (scC j + 3) i)) (-1) (if rfF n (Sc.1 (scC j + 1) i) (Sc.1 (scC j + 2) i) (Sc.1 (scC j + 3) i) = -1 then bI (f_X0_undergo N Sc 54 (Sc.1 (scC j + 1) i) (Sc.1 (scC j + 2) i) (Sc.1 (scC j + 3) i) 56) fun v112 S112 => bV (f_X5_find N S112 56 54) fun S124 => f_X10_run_60 j.toNat K N x2 (i + 1) S124 else K x2 i Sc) := fun K => by
      rw [f_X10_run_60]
      unfold gI f_X7_refusalOf
      dsimp only
      rw [show 32 + 4 * j.toNat = scC j from rfl, cI_of (by omega) (by omega) (by omega) (by omega), if_neg (by omega)]
      rw [aI_of h0 (by omega), aI_of h0 (by omega), aI_of h0 (by omega), er, bI_of, show rI (rfF n (Sc.1 (scC j + 1) i) (Sc.1 (scC j + 2) i) (Sc.1 (scC j + 3) i)) Sc = some (rfF n (Sc.1 (scC j + 1) i) (Sc.1 (scC j + 2) i) (Sc.1 (scC j + 3) i), Sc) from rfl, bI_of]
      rw [aI_of h0 (by omega), aI_of h0 (by omega), aI_of h0 (by omega)]
    have refR : f_X11_goSteps_2 (f_X11_goSteps_130 M0) (M + 1) j 0 i Sm = cI (rfF n (Sc.1 (scC j + 1) i) (Sc.1 (scC j + 2) i) (Sc.1 (scC j + 3) i)) (-1) (if rfF n (Sc.1 (scC j + 1) i) (Sc.1 (scC j + 2) i) (Sc.1 (scC j + 3) i) = -1 then bI (f_X11_doNow M Sm (Sc.1 (scC j + 1) i) (Sm.1 6 (3 * (12 * j + i) + 1)) (Sm.1 6 (3 * (12 * j + i) + 2))) fun v120 S120 => f_X11_goSteps_2 (f_X11_goSteps_130 M0) M j 0 (i + 1) S120 else rI i Sm) := by
      rw [f_X11_goSteps_2, aI_of hj.1 (by omega), e7, cI_of (by omega) (by omega) (by omega) (by omega), if_neg (by omega), aI_of (by omega) (by omega), aI_of (by omega) (by omega), aI_of (by omega) (by omega), st.1, ew, bI_of, cI_of (x := (0 : Int)) (by decide) (by decide) (by decide) (by decide), if_pos (c := (0 : Int) = 0) rfl, aI_of (by omega) (by omega), aI_of (by omega) (by omega), aI_of (by omega) (by omega), st.1]
      rfl
    by_cases g : rfF n (Sc.1 (scC j + 1) i) (Sc.1 (scC j + 2) i) (Sc.1 (scC j + 3) i) = -1
    · obtain ⟨n1, b', z'⟩ := ac_ok hn.1 hn.2 hb hz so g
      obtain ⟨C1, v1, a1, a2, a3, -⟩ := undergo_of N (c0 := 56) (c := 54) (by unfold Off; omega) hc hP hn.1 hn.2 hb so g (by omega)
      obtain ⟨C2, b1, b2, b3⟩ := findC_of N (c0 := 56) (c := 54) (by unfold Off; omega) a2 b' n1.1 n1.2 z'.1 z'.2 (by omega)
      obtain ⟨M1, d1, d2, d3, d4⟩ := doNow_of M hm.1 hn.1 hn.2 hb hz hLB hm.2.1 so (aq.1.trans g) (by omega)
      rw [aq.2.1, aq.2.2.1, aq.2.2.2.1] at d2
      have fr2 : Fr runA Sc C2 := a3.trans b3 (fun x q => by have q : x = 54 ∨ x = 54 + 1 ∨ x = 56 + 13 := q; show 54 ≤ x ∧ x ≤ 69; omega) (fun x q => by have q : 56 ≤ x ∧ x ≤ 56 + 12 := q; show 54 ≤ x ∧ x ≤ 69; omega)
      have q : ∀ x, scC j ≤ x → x ≤ scC j + 3 → C2.1 x = Sc.1 x := fun x y w => fr2.2 x (fun u => by have u : 54 ≤ x ∧ x ≤ 69 := u; omega)
      have hO1 : OneS C2 M1 (scC j) j := hO.keep (by omega) q (fun k _ => by rw [d3.2.1 6 (by decide) (by decide)]) (fun k _ => by rw [d3.2.1 7 (by decide) (by decide)])
      have hm1 : MCur M1 (acN n (Sc.1 (scC j + 1) i) (Sc.1 (scC j + 3) i)) (acS n s z (Sc.1 (scC j + 1) i) (Sc.1 (scC j + 2) i) (Sc.1 (scC j + 3) i)) (acZ z (Sc.1 (scC j + 1) i) (Sc.1 (scC j + 2) i)) nl r pl := ⟨d2, hm.2.1.kept d3 (by decide) (by decide) (by decide), by rw [d3.2.2 29 (by decide)]; exact hm.2.2⟩
      have ct2 := a2.kept b3 (by decide) (by decide)
      obtain ⟨w, n', z2, s', C3, M3, e1, e2, e3, e4, e5, e6, e7', e8, e9, e10, e11⟩ := ih N M (i + 1) _ _ _ C2 M1 (by omega) (by rw [q _ (by omega) (by omega)]; omega) (by omega) (by omega) n1 b' z' ct2 b2 hm1 hO1
      refine ⟨w, n', z2, s', C3, M3, fun K => ?_, ?_, by rw [q _ (by omega) (by omega)] at e3; exact e3, e4, e5, e6, e7', e8, fr2.trans e9 (fun _ h => h) (fun _ h => h), d3.trans e10 (fun _ h => h) (fun _ h => h) (fun _ h => h) (fun _ h => h), fun k hk => (e11 k hk).trans (d4 k hk)⟩
      · rw [clsR, g, cI_of (by decide) (by decide) (by decide) (by decide), if_pos rfl, a1, bI_of, b1, bV_of]; exact e1 K
      · rw [refR, g, cI_of (by decide) (by decide) (by decide) (by decide), if_pos rfl, d1, bI_of]; exact e2
    · refine ⟨i, n, z, s, Sc, Sm, fun K => ?_, ?_, by omega, hn, hb, hz, hP, hm, Fr.refl, FrM.refl, fun _ _ => rfl⟩
      · rw [clsR, cI_of (by omega) (by omega) (by decide) (by decide), if_neg g]
      · rw [refR, cI_of (by omega) (by omega) (by decide) (by decide), if_neg g]; rfl
theorem CurR.keep2 {Sc' Sm' : S2} (h : CurR Sc Sm n s z) (c : ∀ j, (4 ≤ j ∧ j ≤ 18) → Sc'.1 j = Sc.1 j) (m8 : ∀ k, 0 ≤ k → k < 50 → Sm'.1 8 k = Sm.1 8 k) (m0 : Sm'.1 0 29 = Sm.1 0 29) : CurR Sc' Sm' n s z := by
  obtain ⟨h1, h2, h3, h4, h5, h6, h7⟩ := h
  have hk : CurR Sc' Sm n s z := CurR.keep ⟨h1, h2, h3, h4, h5, h6, h7⟩ c (fun _ _ => rfl) rfl
  exact ⟨h1, h2, h3, hk.2.2.2.1, CvG.congr (g := Sm.1 8) h5 h1.2 m8, by rw [m0]; exact h6, hk.2.2.2.2.2.2⟩
theorem run_both (N M : Nat) (hN : 2000 ≤ N) (hM : 2000 ≤ M) (hB : B ≤ 50000) (H : RelB B Sc Sm) {a1 a2 : Int} (h1 : inR a1) (h2 : inR a2) : ∃ (v : Int) (Sc' Sm' : S2), f_X10_run N Sc a1 a2 = some (v, Sc') ∧ f_X11_run M Sm a1 a2 = some (v, Sm') ∧ RelB (B + 40) Sc' Sm' := by
  obtain ⟨t1, hS, t3, ⟨n, z, s, cur, g4'⟩, ⟨nl, r, pl, ln⟩, t6, t7⟩ := id H
  have i29 := cur.2.2.2.2.2.1
  have n0 := cur.1
  have c1 := h2.1
  have c2 := h2.2
  have ec := hasScript_of N hS h1.1 h1.2
  have em := isScript_of M hS h1.1 h1.2
  obtain ⟨⟨s0, s4⟩, e21, hO⟩ := id hS
  by_cases g : 0 ≤ a1 ∧ a1 < Sc.1 0 8
  · rw [if_pos g] at ec em
    by_cases g0 : n = 0
    · rw [if_pos g0] at i29
      refine ⟨-1000000, Sc, Sm, ?_, ?_, H.up (by omega)⟩
      · unfold f_X10_run
        rw [ec, bI_of, cI_of (by decide) (by decide) (by decide) (by decide), if_neg (by decide), noTrace_y _ cur g0, bI_of, cI_of (by decide) (by decide) (by decide) (by decide), if_neg (by decide)]; rfl
      · unfold f_X11_run gI
        rw [em, bI_of, cI_of (by decide) (by decide) (by decide) (by decide), if_neg (by decide)]
        dsimp only
        rw [i29, cI_of (by decide) (by decide) (by decide) (by decide), if_pos rfl]; rfl
    · rw [if_neg g0] at i29
      have n1 : 1 ≤ n := by omega
      by_cases gw : 0 ≤ a2 ∧ a2 ≤ 1
      · have o := hO a1 g.1 g.2
        have ob := o.1
        have eN : scC a1 = 32 + 4 * a1.toNat := rfl
        obtain ⟨⟨-, n48⟩, hb, hz, hc, hm, hi, hP, hQ⟩ := id cur
        obtain ⟨hLB, -, hLM, -⟩ := id ln
        -- the class's trial
        obtain ⟨C1, x1, x2, x3, -⟩ := copyFrom_of N (c0 := 54) hc n48 (by omega) (by omega) (by omega)
        obtain ⟨C2, y1, y2, y3⟩ := findC_of N (c0 := 56) (c := 54) (by unfold Off; omega) x2 hb n1 n48 hz.1 hz.2 (by omega)
        have fr2 : Fr runA Sc C2 := x3.trans y3 (fun x q => by have q : x = 54 ∨ x = 54 + 1 := q; show 54 ≤ x ∧ x ≤ 69; omega) (fun x q => by have q : 56 ≤ x ∧ x ≤ 56 + 12 := q; show 54 ≤ x ∧ x ≤ 69; omega)
        -- the reference puts aside
        obtain ⟨M1, p1, p2, p3, p4⟩ := putAside_lay 50 M 0 Sm (by omega) (by omega) (by omega)
        have hm1 : MCur M1 n s z nl r pl := ⟨hm.keptM p4 (by decide) (by decide), hLM.kept p4 (by decide) (fun q => q) (fun q => q), by rw [p4.2.2 29 (fun q => q)]; exact i29⟩
        have q : ∀ x, scC a1 ≤ x → x ≤ scC a1 + 3 → C2.1 x = Sc.1 x := fun x y w => fr2.2 x (fun u => by have u : 54 ≤ x ∧ x ≤ 69 := u; omega)
        have o1 : OneS C2 M1 (scC a1) a1 := o.keep (by omega) q (fun k _ => by rw [p4.2.1 6 (by decide) (by decide)]) (fun k _ => by rw [p4.2.1 7 (by decide) (by decide)])
        obtain ⟨v, n', z', s', C3, M3, l1, l2, l3, l4, l5, l6, l7, l8, l9, l10, l11⟩ := run_loop M (j := a1) (by omega) hLB (x2 := a2) (Sc.1 (scC a1) 0).toNat N M 0 n z s C2 M1 (by omega) (by rw [q _ (by omega) (by omega)]; omega) (by omega) (by omega) ⟨n1, n48⟩ hb hz (x2.kept y3 (by decide) (by decide)) y2 hm1 o1
        rw [q _ (by omega) (by omega)] at l3
        obtain ⟨M4, u1, u2⟩ := keptNow_of M l8.1 l5 l4.1 l4.2 l6 hLB l8.2.1 (by omega)
        obtain ⟨M5, w1, w2, w3, w4⟩ := bringBack_lay 50 M 0 M4 (by omega) (by omega) (by omega)
        have frC : Fr runA Sc C3 := fr2.trans l9 (fun _ h => h) (fun _ h => h)
        have kc : KC Sc C3 := KC.of frC (fun x q => Or.inr (Or.inr (Or.inr (by have q : 54 ≤ x ∧ x ≤ 69 := q; omega))))
        have frM : FrM (fun j => j = 8 ∨ (13 ≤ j ∧ j ≤ 22) ∨ j = 25) findsF Sm M5 := (((p4.trans l10 (fun x q => by have q : x = 25 := q; omega) (fun x q => by have q : x = 8 ∨ (13 ≤ x ∧ x ≤ 22) := q; omega) (fun _ q => q.elim) (fun _ q => q) (C := fun j => j = 8 ∨ (13 ≤ j ∧ j ≤ 22) ∨ j = 25) (K := findsF)).trans u2 (fun _ q => q) (fun x q => by have q : 13 ≤ x ∧ x ≤ 21 := q; omega) (fun _ q => q) (fun _ q => q) (C := fun j => j = 8 ∨ (13 ≤ j ∧ j ≤ 22) ∨ j = 25) (K := findsF))).trans w4 (fun _ q => q) (fun x q => by have q : x = 8 := q; omega) (fun _ q => q) (fun _ q => q.elim)
        have qm : ∀ x, x ≠ 0 → ¬ (x = 8 ∨ (13 ≤ x ∧ x ≤ 22) ∨ x = 25) → M5.1 x = Sm.1 x := fun x y w => frM.2.1 x y w
        have qf : ∀ k : Int, (k = 2 ∨ k = 21 ∨ k = 27 ∨ k = 28 ∨ k = 29 ∨ k = 44 ∨ k = 47) → M5.1 0 k = Sm.1 0 k := fun k hk => frM.2.2 k (fun q => by have q : k = 35 ∨ k = 38 ∨ k = 41 := q; omega)
        have r8a : ∀ k, 0 ≤ k → k < 50 → M5.1 8 k = Sm.1 8 k := fun k x y => by rw [w2 k x y, u2.2.1 25 (by decide) (by decide), l10.2.1 25 (by decide) (by decide), p2 k x y]
        have r8b : ∀ k, 50 ≤ k → M5.1 8 k = Sm.1 8 k := fun k x => by rw [w3 k (Or.inr x), u2.2.1 8 (by decide) (by decide), l11 k x, p4.2.1 8 (by decide) (by decide)]
        have qc : ∀ x, ¬ (54 ≤ x ∧ x ≤ 69) → C3.1 x = Sc.1 x := fun x y => frC.2 x y
        have R : RelB B C3 M5 := ⟨t1.keep (fun x hx => qc x (by omega)) (qm 1 (by decide) (by decide)) (qf 2 (by omega)), hS.keep (fun x a b => qc x (by omega)) (by rw [qc 0 (by omega)]) (fun _ _ => by rw [qm 6 (by decide) (by decide)]) (fun _ _ => by rw [qm 7 (by decide) (by decide)]) (qf 21 (by omega)), t3.keep (by rw [qc 0 (by omega)]) (by rw [qc 0 (by omega)]) (qm 9 (by decide) (by decide)) (qc 74 (by omega)), ⟨n, z, s, cur.keep2 (fun x hx => qc x (by omega)) r8a (qf 29 (by omega)), fun _ => n1⟩, ⟨nl, r, pl, ln.keep (fun x hx => qc x (by omega)) (fun x hx => qm x (by omega) (by omega)) (by rw [frM.1]) (fun k hk => qf k (by omega))⟩, t6.keep (fun x hx => qc x (by omega)) (fun k x _ => r8b k x) (qm 23 (by decide) (by decide)) (qf 44 (by omega)), t7.keep (fun x hx => qc x (by omega)) (qm 24 (by decide) (by decide)) (qf 47 (by omega))⟩
        have e56 : C3.1 56 1 = pkK n' s' z' := l7.2.1
        have ecn : C3.1 (scC a1) 0 = Sc.1 (scC a1) 0 := by rw [qc _ (by omega)]
        have e7m : M5.1 7 a1 = Sc.1 (scC a1) 0 := by rw [qm 7 (by decide) (by decide)]; exact o.2.1
        refine ⟨if a2 = 1 then pkK n' s' z' else if v = Sc.1 (scC a1) 0 then -1 else v, C3, M5, ?_, ?_, R.up (by omega)⟩
        · unfold f_X10_run
          rw [ec, bI_of, cI_of (by decide) (by decide) (by decide) (by decide), if_neg (by decide), noTrace_n _ cur n1, bI_of, cI_of (by decide) (by decide) (by decide) (by decide), if_pos rfl, cI_of (by omega) (by omega) (by decide) (by decide), if_neg (by omega), cI_of (by omega) (by omega) (by decide) (by decide), if_pos gw.2, aR_of g.1 (by omega), x1, bV_of, y1, bV_of, l1, f_X10_run_133]
          unfold gI
          dsimp only
          rw [show 32 + 4 * a1.toNat = scC a1 from rfl, cI_of (by omega) (by omega) (by decide) (by decide)]
          by_cases ga : a2 = 1
          · rw [if_pos ga, if_pos ga, e56]; rfl
          · rw [if_neg ga, if_neg ga, ecn, cI_of (by omega) (by omega) (by omega) (by omega)]
            by_cases gv : v = Sc.1 (scC a1) 0
            · rw [if_pos (by omega), if_pos gv]; rfl
            · rw [if_neg (by omega), if_neg gv]; rfl
        · unfold f_X11_run gI
          rw [em, bI_of, cI_of (by decide) (by decide) (by decide) (by decide), if_neg (by decide)]
          dsimp only
          rw [i29, cI_of (by decide) (by decide) (by decide) (by decide), if_neg (by decide), in_y M (by decide) (by decide) gw.1 gw.2, bI_of, cI_of (by decide) (by decide) (by decide) (by decide), if_neg (by decide)]
          unfold f_X11_putAside f_X11_goSteps f_X11_bringBack
          rw [p1, bV_of, l2, bI_of, u1, bI_of, w1, bV_of, cI_of (by omega) (by omega) (by decide) (by decide)]
          by_cases ga : a2 = 1
          · rw [if_pos ga, if_pos ga]; rfl
          · rw [if_neg ga, if_neg ga, aI_of g.1 (by omega), e7m, cI_of (by omega) (by omega) (by omega) (by omega)]
            by_cases gv : v = Sc.1 (scC a1) 0
            · rw [if_pos gv, if_pos gv]; rfl
            · rw [if_neg gv, if_neg gv]; rfl
      · refine ⟨-1000000, Sc, Sm, ?_, ?_, H.up (by omega)⟩
        · unfold f_X10_run
          rw [ec, bI_of, cI_of (by decide) (by decide) (by decide) (by decide), if_neg (by decide), noTrace_n _ cur n1, bI_of, cI_of (by decide) (by decide) (by decide) (by decide), if_pos rfl, cI_of (by omega) (by omega) (by decide) (by decide)]
          by_cases q : a2 < 0
          · rw [if_pos q]; rfl
          · rw [if_neg q, cI_of (by omega) (by omega) (by decide) (by decide), if_neg (by omega)]; rfl
        · unfold f_X11_run gI
          rw [em, bI_of, cI_of (by decide) (by decide) (by decide) (by decide), if_neg (by decide)]
          dsimp only
          rw [i29, cI_of (by decide) (by decide) (by decide) (by decide), if_neg (by decide), in_n M (by decide) (by decide) (by decide) (by decide) c1 c2 (by omega), bI_of, cI_of (by decide) (by decide) (by decide) (by decide), if_pos rfl]; rfl
  · rw [if_neg g] at ec em
    refine ⟨-1000000, Sc, Sm, ?_, ?_, H.up (by omega)⟩
    · unfold f_X10_run
      rw [ec, bI_of, cI_of (by decide) (by decide) (by decide) (by decide), if_pos rfl]; rfl
    · unfold f_X11_run
      rw [em, bI_of, cI_of (by decide) (by decide) (by decide) (by decide), if_pos rfl]; rfl
theorem op_run (hB : B ≤ 50000) : Op_run (RelB B) (RelB (B + 40)) := fun Sc Sm H a1 a2 h1 h2 => ⟨2000, 2000, run_both 2000 2000 (by decide) (by decide) hB H h1 h2⟩
end RUN
