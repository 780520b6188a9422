/-! one act on both sides -/
/-- the class's step (so, a, b), the reference's (so, a', b') -/
def StpE (so a b a' b' : Int) : Prop := (so ≤ 3 → a = 0) ∧ (4 ≤ so → a' = a) ∧ (so = 6 ∨ so = 7 ∨ so = 9 → b' = b)
theorem ac_eq {n z so a b a' b' : Int} {s : Int → Int} (h : StpE so a b a' b') (hs : 0 ≤ so ∧ so ≤ 9) : rfF n so a' b' = rfF n so a b ∧ acN n so b' = acN n so b ∧ acS n s z so a' b' = acS n s z so a b ∧ acZ z so a' = acZ z so a ∧ (2 ≤ so → acV n s z so a' b' = acV n s z so a b) := by
  obtain ⟨h1, h2, h3⟩ := h
  rcases (show so = 0 ∨ so = 1 ∨ so = 2 ∨ so = 3 ∨ so = 4 ∨ so = 5 ∨ so = 6 ∨ so = 7 ∨ so = 8 ∨ so = 9 by omega) with rfl | rfl | rfl | rfl | rfl | rfl | rfl | rfl | rfl | rfl
  · exact ⟨rfl, rfl, rfl, rfl, fun h => by omega⟩
  · exact ⟨rfl, rfl, rfl, rfl, fun h => by omega⟩
  · exact ⟨rfl, rfl, rfl, rfl, fun _ => rfl⟩
  · exact ⟨rfl, rfl, rfl, rfl, fun _ => rfl⟩
  · rw [h2 (by decide)]
    refine ⟨?_, rfl, rfl, rfl, fun _ => rfl⟩
    unfold rfF bnI
    simp (config := { decide := true }) only [false_implies, and_true, true_and, false_or, or_false, false_and, if_false, true_implies, forall_const]
  · rw [h2 (by decide)]
    refine ⟨?_, rfl, rfl, rfl, fun _ => rfl⟩
    unfold rfF bnI
    simp (config := { decide := true }) only [false_implies, and_true, true_and, false_or, or_false, false_and, if_false, true_implies, forall_const]
  · rw [h2 (by decide), h3 (by decide)]; exact ⟨rfl, rfl, rfl, rfl, fun _ => rfl⟩
  · rw [h2 (by decide), h3 (by decide)]; exact ⟨rfl, rfl, rfl, rfl, fun _ => rfl⟩
  · rw [h2 (by decide)]
    refine ⟨?_, rfl, rfl, rfl, fun _ => rfl⟩
    unfold rfF bnI
    simp (config := { decide := true }) only [false_implies, and_true, true_and, false_or, or_false, false_and, if_false, true_implies, forall_const]
  · rw [h2 (by decide), h3 (by decide)]; exact ⟨rfl, rfl, rfl, rfl, fun _ => rfl⟩
abbrev actCA : Nat → Prop := fun j => (4 ≤ j ∧ j ≤ 19) ∨ j = 25 ∨ (27 ≤ j ∧ j ≤ 30) ∨ (82 ≤ j ∧ j ≤ 161)
abbrev actMA : Nat → Prop := fun j => j = 8 ∨ (13 ≤ j ∧ j ≤ 23)
abbrev actMF : Int → Prop := fun k => k = 35 ∨ k = 38 ∨ k = 41 ∨ k = 44
section ACT
variable {Sc Sm : S2} {n z nl r B : Int} {s pl : Int → Int}
theorem act_both (N M : Nat) (cur : CurR Sc Sm n s z) (h1 : 1 ≤ n) (ln : LineR Sc Sm nl r pl) (lg : LogR Sc Sm B) (hB : B ≤ 100000) {so a b a' b' : Int} (hs : 0 ≤ so ∧ so ≤ 9) (hr : rfF n so a b = -1) (hE : StpE so a b a' b') (hN : 1000 ≤ N) (hM : 10000 ≤ M) : ∃ (v : Int) (Sc' Sm' : S2), f_X10_act N Sc so a b = some (v, Sc') ∧ f_X11_act M Sm so a' b' = some (v, Sm') ∧ CurR Sc' Sm' (acN n so b) (acS n s z so a b) (acZ z so a) ∧ LogR Sc' Sm' (B + 1) ∧ Fr actCA Sc Sc' ∧ FrM actMA actMF Sm Sm' ∧ 1 ≤ acN n so b := by
  obtain ⟨⟨h0, hn⟩, hb, hz, hc, hm, hi, hP, -⟩ := cur
  have hP := hP h1
  obtain ⟨hLB, hLC, hLM, -⟩ := ln
  obtain ⟨h, nx, T, e, k1, k2, k3, k4, k5, k6, k7, k8, k9⟩ := lg
  obtain ⟨q1, q2, q3, q4, q5⟩ := ac_eq (n := n) (z := z) (s := s) hE hs
  obtain ⟨⟨n1, n2⟩, hb', hz'⟩ := ac_ok h1 hn hb hz hs hr
  have hoff : Off 6 4 := by unfold Off; omega
  obtain ⟨h', eh⟩ : ∃ h', h' = min (h + 1) 40 := ⟨_, rfl⟩
  obtain ⟨n', en⟩ : ∃ n', n' = acN n so b := ⟨_, rfl⟩
  obtain ⟨s', es⟩ : ∃ s', s' = acS n s z so a b := ⟨_, rfl⟩
  obtain ⟨z', ez⟩ : ∃ z', z' = acZ z so a := ⟨_, rfl⟩
  rw [← en] at n1 n2 hb'
  rw [← es] at hb'
  rw [← ez] at hz'
  -- the class
  obtain ⟨C1, a1, a2, a3, a4, a5⟩ := keepC_of N hc hn k4 k5 k1 k2
  have hr1 : rwC nx = 82 + 2 * nx.toNat := rfl
  have inA : ∀ j, keepA nx j → j = 25 ∨ (82 ≤ j ∧ j ≤ 161) := fun j hj => by have hj : j = 25 ∨ j = rwC nx ∨ j = rwC nx + 1 := hj; omega
  have hc1 := hc.kept a5 (fun q => by have := inA _ q; omega) (fun q => by have := inA _ q; omega)
  have hP1 := hP.kept a5 (fun j x y q => by have := inA _ q; omega)
  obtain ⟨C2, v1, b1, b2, b3, b4⟩ := undergo_of N hoff hc1 hP1 h1 hn hb hs hr (by omega)
  rw [← en, ← es, ← ez] at b2
  obtain ⟨C3, c1, c2, c3⟩ := findC_of N hoff b2 hb' n1 n2 hz'.1 hz'.2 (by omega)
  have fr13 : Fr (fun j => (4 ≤ j ∧ j ≤ 19) ∨ j = 25 ∨ (82 ≤ j ∧ j ≤ 161)) Sc C3 := ((a5.trans b3 (fun j q => Or.inr (inA j q)) (fun j q => Or.inl (by have q : j = 4 ∨ j = 4 + 1 ∨ j = 6 + 13 := q; omega)) (C := fun j => (4 ≤ j ∧ j ≤ 19) ∨ j = 25 ∨ (82 ≤ j ∧ j ≤ 161)))).trans c3 (fun _ q => q) (fun j q => Or.inl (by have q : 6 ≤ j ∧ j ≤ 6 + 12 := q; omega))
  have hR3 : RingC C3 27 (T - h) T e := k7.kept fr13 (fun j q z => by have q : 27 ≤ j ∧ j ≤ 27 + 3 := q; have z : (4 ≤ j ∧ j ≤ 19) ∨ j = 25 ∨ (82 ≤ j ∧ j ≤ 161) := z; omega)
  have ek : C3.1 6 1 = pkK n' s' z' := c2.2.1
  obtain ⟨C4, d1, d2, d3⟩ := addC_of N hR3 (F' := T + 1 - h') (by omega) (by omega) (by omega) (by omega) (a := so) (b := a) (c := pkK n' s' z')
  have fr4 : Fr actCA Sc C4 := fr13.trans d3 (fun j q => by have q : (4 ≤ j ∧ j ≤ 19) ∨ j = 25 ∨ (82 ≤ j ∧ j ≤ 161) := q; show (4 ≤ j ∧ j ≤ 19) ∨ j = 25 ∨ (27 ≤ j ∧ j ≤ 30) ∨ (82 ≤ j ∧ j ≤ 161); omega) (fun j q => by have q : 27 ≤ j ∧ j ≤ 27 + 3 := q; show (4 ≤ j ∧ j ≤ 19) ∨ j = 25 ∨ (27 ≤ j ∧ j ≤ 30) ∨ (82 ≤ j ∧ j ≤ 161); omega)
  have e4 : C4.1 6 1 = pkK n' s' z' := by rw [d3.at (by decide)]; exact ek
  -- the reference
  obtain ⟨M1, f1, f2, f3, f4, f5⟩ := keepM_of M k6 k1 (by omega)
  have hm1 := hm.keptM f5 (by decide) (by decide)
  have hL1 := hLM.kept f5 (by decide) (by decide) (by decide)
  obtain ⟨M2, g1, g2, g3, g4⟩ := doNow_of M hm1 h1 hn hb hz hLB hL1 hs (q1.trans hr) (by omega)
  rw [q2, q3, q4, ← en, ← es, ← ez] at g2
  have hL2 := hL1.kept g3 (by decide) (by decide) (by decide)
  have lg2 : LogG (M2.1 8) T e := (k8.congr (fun k x y => by rw [f5.2.1 8 (by decide) (by decide)])).congr (fun k x y => g4 k x)
  obtain ⟨M3, i1, i2, i3, i4⟩ := note_of M g2 n1 n2 hb' hz' hLB hL2 lg2 (by omega) (a := so) (b := a) (by omega)
  have fr34 : FrM (fun j => j = 8 ∨ (13 ≤ j ∧ j ≤ 22)) findsF M1 M3 := g3.trans i4 (fun _ q => q) (fun j q => by have q : j = 8 ∨ (13 ≤ j ∧ j ≤ 21) := q; show j = 8 ∨ (13 ≤ j ∧ j ≤ 22); omega) (fun _ q => q) (fun _ q => q)
  have frM : FrM actMA actMF Sm M3 := f5.trans fr34 (fun j q => by have q : j = 23 := q; show j = 8 ∨ (13 ≤ j ∧ j ≤ 23); omega) (fun j q => by have q : j = 8 ∨ (13 ≤ j ∧ j ≤ 22) := q; show j = 8 ∨ (13 ≤ j ∧ j ≤ 23); omega) (fun k q => by have q : k = 44 := q; show k = 35 ∨ k = 38 ∨ k = 41 ∨ k = 44; omega) (fun k q => by have q : k = 35 ∨ k = 38 ∨ k = 41 := q; show k = 35 ∨ k = 38 ∨ k = 41 ∨ k = 44; omega)
  have m23 : M3.1 23 = M1.1 23 := fr34.2.1 23 (by decide) (by decide)
  have fr14 : Fr (fun j => (4 ≤ j ∧ j ≤ 19) ∨ (27 ≤ j ∧ j ≤ 30)) C1 C4 := (b3.trans c3 (fun j q => by have q : j = 4 ∨ j = 4 + 1 ∨ j = 6 + 13 := q; show 4 ≤ j ∧ j ≤ 19; omega) (fun j q => by have q : 6 ≤ j ∧ j ≤ 6 + 12 := q; show 4 ≤ j ∧ j ≤ 19; omega) (C := fun j => 4 ≤ j ∧ j ≤ 19)).trans d3 (fun j q => Or.inl q) (fun j q => Or.inr (by have q : 27 ≤ j ∧ j ≤ 27 + 3 := q; omega))
  rw [← eh] at f2 f3 f4 a3
  -- history
  have hist : HistR C4 M3 h' ((nx + 1) % 40) (T + 1 - h') (upE e T so a (pkK n' s' z')) := fun j x y => by
    by_cases g : j = h' - 1
    · refine ⟨n, s, z, ⟨h1, hn⟩, hb, hz, ?_, ?_, ?_⟩
      · rw [show ((nx + 1) % 40 + 40 - h' + j) % 40 = nx by omega]
        exact a2.kept fr14 (by show ¬ ((4 ≤ rwC nx ∧ rwC nx ≤ 19) ∨ (27 ≤ rwC nx ∧ rwC nx ≤ 30)); omega) (by show ¬ ((4 ≤ rwC nx + 1 ∧ rwC nx + 1 ≤ 19) ∨ (27 ≤ rwC nx + 1 ∧ rwC nx + 1 ≤ 30)); omega)
      · exact CvG.congr (g := Sm.1 8) hm hn (fun k u v => by rw [m23, g]; exact f4 k u (by omega))
      · rw [show T + 1 - h' + j = T by omega]
        exact (k8.congr (g' := fun k => M3.1 23 (231 * j + k)) (fun k u v => by rw [m23, g]; exact f4 k (by omega) v)).upE (Int.le_refl T) (by omega)
    · obtain ⟨no, so', zo, o1, o2, o3, o4, o5, o6⟩ := k9 (j + (h + 1 - h')) (by omega) (by omega)
      have hro : rwC ((nx + 40 - h + (j + (h + 1 - h'))) % 40) = 82 + 2 * ((nx + 40 - h + (j + (h + 1 - h'))) % 40).toNat := rfl
      have ro : ((nx + 40 - h + (j + (h + 1 - h'))) % 40) ≠ nx := by omega
      refine ⟨no, so', zo, o1, o2, o3, ?_, ?_, ?_⟩
      · rw [show ((nx + 1) % 40 + 40 - h' + j) % 40 = (nx + 40 - h + (j + (h + 1 - h'))) % 40 by omega]
        refine (o4.kept a5 (fun q => ?_) (fun q => ?_)).kept fr14 (fun q => ?_) (fun q => ?_)
        · have q : rwC ((nx + 40 - h + (j + (h + 1 - h'))) % 40) = 25 ∨ rwC ((nx + 40 - h + (j + (h + 1 - h'))) % 40) = rwC nx ∨ rwC ((nx + 40 - h + (j + (h + 1 - h'))) % 40) = rwC nx + 1 := q; omega
        · have q : rwC ((nx + 40 - h + (j + (h + 1 - h'))) % 40) + 1 = 25 ∨ rwC ((nx + 40 - h + (j + (h + 1 - h'))) % 40) + 1 = rwC nx ∨ rwC ((nx + 40 - h + (j + (h + 1 - h'))) % 40) + 1 = rwC nx + 1 := q; omega
        · have q : (4 ≤ rwC ((nx + 40 - h + (j + (h + 1 - h'))) % 40) ∧ rwC ((nx + 40 - h + (j + (h + 1 - h'))) % 40) ≤ 19) ∨ (27 ≤ rwC ((nx + 40 - h + (j + (h + 1 - h'))) % 40) ∧ rwC ((nx + 40 - h + (j + (h + 1 - h'))) % 40) ≤ 30) := q; omega
        · have q : (4 ≤ rwC ((nx + 40 - h + (j + (h + 1 - h'))) % 40) + 1 ∧ rwC ((nx + 40 - h + (j + (h + 1 - h'))) % 40) + 1 ≤ 19) ∨ (27 ≤ rwC ((nx + 40 - h + (j + (h + 1 - h'))) % 40) + 1 ∧ rwC ((nx + 40 - h + (j + (h + 1 - h'))) % 40) + 1 ≤ 30) := q; omega
      · exact CvG.congr o5 o1.2 (fun k u v => by show M3.1 23 (231 * j + k) = _; rw [m23]; exact f3 j k x (by omega) u (by omega))
      · have o6 := o6.upE (T' := T) (a := so) (b := a) (c := pkK n' s' z') (by omega) (by omega)
        rw [show T - h + (j + (h + 1 - h')) = T + 1 - h' + j by omega] at o6
        exact o6.congr (fun k u v => by show M3.1 23 (231 * j + k) = _; rw [m23]; exact f3 j k x (by omega) (by omega) v)
  refine ⟨if so ≤ 1 then pkK n' s' z' else acV n s z so a b, C4, M3, ?_, ?_, ?_, ?_, fr4, frM, by rw [← en]; exact n1⟩
  · unfold f_X10_act
    rw [a1, bV_of, b1, bI_of, c1, bV_of]
    simp (disch := omega) only [ek, gI, uI, cI_of, aI_of, sI_of, mnI_of, mxI_of, abI_of, dvI_of, rmI_of, bI_of, bV_of, rI, rV, rL, rP, rT, rZ_of, rC_of, if_pos, if_neg, if_true, if_false]
    rw [d1, bV_of]
    by_cases u : so ≤ 1
    · rw [if_pos u]
      by_cases w : so = 0
      · simp (disch := omega) only [f_X10_act_63, e4, gI, uI, cI_of, aI_of, sI_of, mnI_of, mxI_of, abI_of, dvI_of, rmI_of, bI_of, bV_of, rI, rV, rL, rP, rT, rZ_of, rC_of, if_pos, if_neg, if_true, if_false]
      · simp (disch := omega) only [f_X10_act_63, e4, gI, uI, cI_of, aI_of, sI_of, mnI_of, mxI_of, abI_of, dvI_of, rmI_of, bI_of, bV_of, rI, rV, rL, rP, rT, rZ_of, rC_of, if_pos, if_neg, if_true, if_false]
    · rw [if_neg u, ← b4 (by omega)]
      simp (disch := omega) only [gI, uI, cI_of, aI_of, sI_of, mnI_of, mxI_of, abI_of, dvI_of, rmI_of, bI_of, bV_of, rI, rV, rL, rP, rT, rZ_of, rC_of, if_pos, if_neg, if_true, if_false]
  · have ea : f_X11_act_25 M (if so ≤ 1 then pkK n' s' z' else acV n s z so a b) a so M2 = some (if so ≤ 1 then pkK n' s' z' else acV n s z so a b, M3) := by
      unfold f_X11_act_25
      rw [i1]
      rfl
    have eg : (if so ≤ 1 then pkK (acN n so b') (acS n s z so a' b') (acZ z so a') else acV n s z so a' b') = (if so ≤ 1 then pkK n' s' z' else acV n s z so a b) := by
      rw [q2, q3, q4, ← en, ← es, ← ez]
      by_cases u : so ≤ 1
      · rw [if_pos u, if_pos u]
      · rw [if_neg u, if_neg u, q5 (by omega)]
    rw [eg] at g1
    unfold f_X11_act
    rw [f1, bV_of, g1, bI_of]
    by_cases u : 3 < so
    · rw [hE.2.1 (by omega)]
      rw [cI_of (by omega) (by omega) (by omega) (by omega), if_pos u]
      exact ea
    · rw [cI_of (by omega) (by omega) (by omega) (by omega), if_neg u]
      have ha0 := hE.1 (by omega)
      subst ha0
      exact ea
  · rw [← en, ← es, ← ez]
    refine ⟨⟨by omega, n2⟩, hb', hz', b2.kept ((c3.trans d3 (fun j q => Or.inl q) (fun j q => Or.inr q) (C := fun j => allP 6 j ∨ logA 27 j))) (fun q => by have q : (6 ≤ 4 ∧ 4 ≤ 6 + 12) ∨ (27 ≤ 4 ∧ 4 ≤ 27 + 3) := q; omega) (fun q => by have q : (6 ≤ 4 + 1 ∧ 4 + 1 ≤ 6 + 12) ∨ (27 ≤ 4 + 1 ∧ 4 + 1 ≤ 27 + 3) := q; omega), i2, ?_, fun _ => c2.kept d3 (fun j x y q => by have q : 27 ≤ j ∧ j ≤ 27 + 3 := q; omega), fun q => by omega⟩
    rw [if_neg (by omega)]
    have : Sm.1 0 29 = 1 := by rw [hi, if_neg (by omega)]
    rw [frM.2.2 29 (by decide)]; exact this
  · refine ⟨h', (nx + 1) % 40, T + 1, upE e T so a (pkK n' s' z'), by omega, by omega, by omega, ?_, ?_, ?_, d2, i3, hist⟩
    · rw [fr14.at (by decide)]; exact a3
    · rw [fr14.at (by decide)]; exact a4
    · rw [fr34.2.2 44 (by decide)]; exact f2
end ACT
