section FINDC
variable {S : S2} {c0 c : Nat} {n z : Int} {s : Int → Int}
theorem keptC_loop {m : Int} {L : Int → Int} (hoff : Off c0 c) (hm : m ≤ 48) (hL : ∀ k, 0 ≤ k → k < m → 0 ≤ L k ∧ L k ≤ 999) (hz : 0 ≤ z) (hz2 : z ≤ 999) (hp : ∀ (N : Nat) (S' : S2), Fr (fun j => j = c0) S S' → ∀ k, 0 ≤ k → k < m → f_X5_persistenceOf N S' c0 k = some (L k, S')) : ∀ (d N : Nat) (k : Int) (S' : S2), Fr (fun j => j = c0) S S' → 1 ≤ k → k + d = m → d < N → S'.1 c0 1 = k → S'.1 c0 0 = m → CvC S' c n s z → ∃ S'', f_X5_find_108 c0 c N S' = some S'' ∧ S''.1 c0 1 = kpF L z d k ∧ S''.1 c0 0 = m ∧ Fr (fun j => j = c0) S S'' := by
  intro d
  induction d with
  | zero =>
    intro N k S' fr h0 hk hN e1 e0 hc
    obtain ⟨N, rfl⟩ : ∃ M, N = M + 1 := ⟨N - 1, by omega⟩
    refine ⟨S', ?_, e1, e0, fr⟩
    rw [f_X5_find_108]
    simp (disch := omega) only [e0, e1, gI, uI, cI_of, aI_of, sI_of, mnI_of, mxI_of, abI_of, dvI_of, rmI_of, bI_of, bV_of, rI, rV, rL, rP, rT, rZ_of, rC_of, if_pos, if_neg, if_true, if_false]
  | succ d ih =>
    intro N k S' fr h0 hk hN e1 e0 hc
    obtain ⟨N, rfl⟩ : ∃ M, N = M + 1 := ⟨N - 1, by omega⟩
    have ep := hp N S' fr k (by omega) (by omega)
    have bL := hL k (by omega) (by omega)
    have en := hc.2.1
    rw [kpF]
    by_cases g : z < L k
    · have fr2 : Fr (fun j => j = c0) S (pI S' c0 1 (k + 1)) := fr.pI rfl
      have fr3 : Fr (fun j => j = c0) S' (pI S' c0 1 (k + 1)) := Fr.refl.pI rfl
      obtain ⟨S'', f1, f2, f3, f4⟩ := ih N (k + 1) (pI S' c0 1 (k + 1)) fr2 (by omega) (by omega) (by omega) pI_eq (by rw [pI_idx (by omega)]; exact e0) (hc.kept fr3 (by unfold Off at hoff; show ¬ c = c0; omega) (by unfold Off at hoff; show ¬ c + 1 = c0; omega))
      refine ⟨S'', ?_, by rw [if_pos g]; exact f2, f3, f4⟩
      rw [f_X5_find_108]
      simp (disch := omega) only [e0, e1, ep, en, gI, uI, cI_of, aI_of, sI_of, mnI_of, mxI_of, abI_of, dvI_of, rmI_of, bI_of, bV_of, rI, rV, rL, rP, rT, rZ_of, rC_of, if_pos, if_neg, if_true, if_false]
      exact f1
    · refine ⟨S', ?_, by rw [if_neg g]; exact e1, e0, fr⟩
      rw [f_X5_find_108]
      simp (disch := omega) only [e0, e1, ep, en, gI, uI, cI_of, aI_of, sI_of, mnI_of, mxI_of, abI_of, dvI_of, rmI_of, bI_of, bV_of, rI, rV, rL, rP, rT, rZ_of, rC_of, if_pos, if_neg, if_true, if_false]
/-- find: the peaks of the curve c -/
theorem findC_of (N : Nat) (hoff : Off c0 c) (hc : CvC S c n s z) (hb : CvB n s) (h0 : 1 ≤ n) (hn : n ≤ 48) (hz : 0 ≤ z) (hz2 : z ≤ 999) (hN : 400 ≤ N) : ∃ S', f_X5_find N S c0 c = some S' ∧ CP S' c0 n s z ∧ Fr (allP c0) S S' := by
  have ho := ordC_ok (by omega) hn hb
  obtain ⟨p1, p2, p3, p4, p5⟩ := pk_facts h0 hn hb
  have frA : Fr (allP c0) S (pI (pI S c0 0 0) c0 1 0) := (Fr.refl.pI (A := allP c0) (by omega)).pI (by omega)
  have hcA := hc.offP hoff frA
  have hcn := hcA.1
  -- the order
  obtain ⟨S1, o, a1, a2, a3, a4⟩ := sort_of N hoff hcA hb (by omega) hn (by omega)
  have a3 : ∀ j, 0 ≤ j → j < n → S1.1 (c0 + 1) j = ordC n s j := fun j x y => by
    rw [a3 j x y]; exact Srt.uniq bef_asym a2 ho (j.toNat + 1) j x (by omega) y
  have fr1 : Fr (allP c0) S S1 := frA.trans a4 (fun _ h => h) (fun j h => by have h : j = c0 + 1 := h; show c0 ≤ j ∧ j ≤ c0 + 12; omega)
  have hc1 := hc.offP hoff fr1
  obtain ⟨S2, b1, b2, b3⟩ := findInit hoff hn n.toNat N 0 S1 (by omega) (by omega) (by omega) hc1 (fun q x y => by omega)
  have fr2 : Fr (allP c0) S S2 := fr1.trans b3 (fun _ h => h) (fun j h => by have h : j = c0 + 2 := h; show c0 ≤ j ∧ j ≤ c0 + 12; omega)
  have hc2 := hc.offP hoff fr2
  have c20 : S2.1 c0 0 = 0 := by rw [b3.at (by show ¬ c0 = c0 + 2; omega), a4.at (by show ¬ c0 = c0 + 1; omega), pI_idx (by omega), pI_eq]
  obtain ⟨S3, d1, d2, d3⟩ := findCome hoff hb hn ho n.toNat N 0 S2 (by omega) (by omega) hc2 (fun j x y => by rw [b3.at (by show ¬ c0 + 1 = c0 + 2; omega)]; exact a3 j x y) ⟨c20, fun q x y => by have y : q < 0 := y; omega, ⟨fun q x y _ => b2 q x y, fun q x y h => absurd rfl h, fun q x y h => absurd rfl h⟩⟩
  have fr3 : Fr (allP c0) S S3 := fr2.trans d3 (fun _ h => h) (fun j h => by have h : j = c0 ∨ (c0 + 2 ≤ j ∧ j ≤ c0 + 9) := h; show c0 ≤ j ∧ j ≤ c0 + 12; omega)
  have hc3 := hc.offP hoff fr3
  obtain ⟨t0, t1, -⟩ := d2
  -- the first one's death
  have ro := ho.1 (n - 1) (by omega) (by omega)
  have r1 : S3.1 (c0 + 1) (n - 1) = ordC n s (n - 1) := by
    rw [d3.at (by show ¬ (c0 + 1 = c0 ∨ _); omega), b3.at (by show ¬ c0 + 1 = c0 + 2; omega)]; exact a3 _ (by omega) (by omega)
  have rs := hc3.2.2 _ ro.1 ro.2
  have ml := minF_last ho hb h0
  obtain ⟨S4, hS4⟩ : ∃ S4, S4 = pI S3 (c0 + 8) 0 (minF s n.toNat 0 999) := ⟨_, rfl⟩
  have fr34 : Fr (fun j => j = c0 + 8) S3 S4 := by rw [hS4]; exact Fr.refl.pI rfl
  have cells : ∀ c, 0 ≤ c → c < pkC n s → S4.1 (c0 + 5) c = pkP n s c ∧ S4.1 (c0 + 6) c = pkH n s c ∧ S4.1 (c0 + 7) c = pkV n s c ∧ S4.1 (c0 + 8) c = pkD n s c ∧ S4.1 (c0 + 9) c = pkA n s c := fun q x y => by
    obtain ⟨k5, k6, k7, k9, k8⟩ := t1 q x y
    rw [fr34.at (by show ¬ c0 + 5 = c0 + 8; omega), fr34.at (by show ¬ c0 + 6 = c0 + 8; omega), fr34.at (by show ¬ c0 + 7 = c0 + 8; omega), fr34.at (j := c0 + 9) (by show ¬ c0 + 9 = c0 + 8; omega)]
    refine ⟨k5, k6, k7, ?_, k9⟩
    rw [hS4]
    by_cases e : q = 0
    · subst e; rw [pI_eq]; exact (if_pos rfl).symm
    · rw [pI_idx e, k8 (by have := (p5 q (by omega) y).1; show pkA n s q ≠ -1; omega)]; exact (if_neg e).symm
  have e40 : S4.1 c0 0 = pkC n s := by rw [fr34.at (by show ¬ c0 = c0 + 8; omega)]; exact t0
  -- generations
  obtain ⟨S5, hS5⟩ : ∃ S5, S5 = pI S4 (c0 + 10) 0 0 := ⟨_, rfl⟩
  have fr45 : Fr (fun j => j = c0 + 10) S4 S5 := by rw [hS5]; exact Fr.refl.pI rfl
  obtain ⟨S6, g1, g2, g3⟩ := tellGen (c0 := c0) (A := pkA n s) (m := pkC n s) (by omega) (pkA_in h0 hn hb) (fun q x y => by have := (p5 q x y).1; omega) ((pkC n s).toNat - 1) N 1 S5 (by omega) (by omega) (by omega) (by rw [fr45.at (by show ¬ c0 = c0 + 10; omega)]; exact e40) (fun q x y => by rw [fr45.at (by show ¬ c0 + 9 = c0 + 10; omega)]; exact (cells q x y).2.2.2.2) (fun q x y => by
    have : q = 0 := by omega
    rw [this, hS5, pI_eq, gF, if_pos p4.1])
  have fr46 : Fr (fun j => j = c0 + 10) S4 S6 := fr45.trans g3 (fun _ h => h) (fun _ h => h)
  have hG : GN S6 c0 (pkC n s) (pkP n s) (pkH n s) (pkD n s) := ⟨by rw [fr46.at (by show ¬ c0 = c0 + 10; omega)]; exact e40, fun q x y => by
    obtain ⟨k5, k6, -, k8, -⟩ := cells q x y
    rw [fr46.at (by show ¬ c0 + 5 = c0 + 10; omega), fr46.at (by show ¬ c0 + 6 = c0 + 10; omega), fr46.at (by show ¬ c0 + 8 = c0 + 10; omega)]; exact ⟨k5, k6, k8⟩⟩
  obtain ⟨S7, w, j1, j2, j3, j4⟩ := giveNumbers_of N hG (pkGB h0 hn hb) p1.1 (by omega) p3 (by omega)
  have weq := j2.uniq (pkW_ok h0 hn hb)
  have wr := (pkW_ok h0 hn hb).range p1.1
  have rows : ∀ k, 0 ≤ k → k < pkC n s → S7.1 (c0 + 11) k = pkW n s k ∧ S7.1 (c0 + 12) (pkW n s k) = k := fun k x y => by
    have := j3 k x y
    rw [weq k x y] at this
    exact this
  have cells7 : ∀ c, 0 ≤ c → c < pkC n s → S7.1 (c0 + 5) c = pkP n s c ∧ S7.1 (c0 + 6) c = pkH n s c ∧ S7.1 (c0 + 7) c = pkV n s c ∧ S7.1 (c0 + 8) c = pkD n s c ∧ S7.1 (c0 + 9) c = pkA n s c ∧ S7.1 (c0 + 10) c = pkG n s c := fun q x y => by
    obtain ⟨k5, k6, k7, k8, k9⟩ := cells q x y
    have h : ∀ i, i ≤ 10 → ¬ row1112 c0 (c0 + i) := fun i hi z => by have z : c0 + i = c0 + 11 ∨ c0 + i = c0 + 12 := z; omega
    rw [j4.at (h 5 (by omega)), j4.at (h 6 (by omega)), j4.at (h 7 (by omega)), j4.at (h 8 (by omega)), j4.at (h 9 (by omega)), j4.at (h 10 (by omega))]
    rw [fr46.at (by show ¬ c0 + 5 = c0 + 10; omega), fr46.at (by show ¬ c0 + 6 = c0 + 10; omega), fr46.at (by show ¬ c0 + 7 = c0 + 10; omega), fr46.at (by show ¬ c0 + 8 = c0 + 10; omega), fr46.at (by show ¬ c0 + 9 = c0 + 10; omega)]
    exact ⟨k5, k6, k7, k8, k9, g2 q x y⟩
  -- kept
  obtain ⟨S8, hS8⟩ : ∃ S8, S8 = pI S7 c0 1 1 := ⟨_, rfl⟩
  have fr78 : Fr (fun j => j = c0) S7 S8 := by rw [hS8]; exact Fr.refl.pI rfl
  have fr7 : Fr (allP c0) S S7 := (((fr3.trans fr34 (fun _ h => h) (fun j h => by have h : j = c0 + 8 := h; show c0 ≤ j ∧ j ≤ c0 + 12; omega) (C := allP c0)).trans fr46 (fun _ h => h) (fun j h => by have h : j = c0 + 10 := h; show c0 ≤ j ∧ j ≤ c0 + 12; omega) (C := allP c0))).trans j4 (fun _ h => h) (fun j h => by have h : j = c0 + 11 ∨ j = c0 + 12 := h; show c0 ≤ j ∧ j ≤ c0 + 12; omega)
  have fr8 : Fr (allP c0) S S8 := fr7.trans fr78 (fun _ h => h) (fun j h => by have h : j = c0 := h; show c0 ≤ j ∧ j ≤ c0 + 12; omega)
  have e70 : S7.1 c0 0 = pkC n s := by rw [j4.at (by show ¬ (c0 = c0 + 11 ∨ c0 = c0 + 12); omega)]; exact hG.1
  obtain ⟨S9, l1, l2, l3, l4⟩ := keptC_loop (S := S7) (m := pkC n s) (L := fun k => pkL n s (pkW n s k)) hoff (by omega) (fun k x y => pkL_in h0 hn hb (wr k x y).1 (wr k x y).2) hz hz2 (fun N S' fr k x y => by
    have w := wr k x y
    have e11 := (rows k x y).1
    obtain ⟨-, e6, -, e8, -⟩ := cells7 _ w.1 w.2
    rw [← fr.at (by show ¬ c0 + 11 = c0; omega)] at e11
    rw [← fr.at (by show ¬ c0 + 6 = c0; omega)] at e6
    rw [← fr.at (by show ¬ c0 + 8 = c0; omega)] at e8
    unfold f_X5_persistenceOf f_X5_heightOf f_X5_deathOf
    simp (disch := omega) only [e11, e6, e8, gI, uI, cI_of, aI_of, sI_of, mnI_of, mxI_of, abI_of, dvI_of, rmI_of, bI_of, bV_of, rI, rV, rL, rP, rT, rZ_of, rC_of, if_pos, if_neg, if_true, if_false]
    rfl) ((pkC n s).toNat - 1) N 1 S8 fr78 (by omega) (by omega) (by omega) (by rw [hS8, pI_eq]) (by rw [hS8, pI_idx (by omega)]; exact e70) (hc.offP hoff fr8)
  have cl : ∀ i, 1 ≤ i → ¬ (c0 + i = c0) := fun i hi => by omega
  refine ⟨S9, ?_, ⟨l3, l2, fun q x y => ?_, fun k x y => ?_⟩, fr7.trans l4 (fun _ h => h) (fun j h => by have h : j = c0 := h; show c0 ≤ j ∧ j ≤ c0 + 12; omega)⟩
  · unfold f_X5_find
    simp (disch := omega) only [hcn, a1, gI, uI, cI_of, aI_of, sI_of, mnI_of, mxI_of, abI_of, dvI_of, rmI_of, bI_of, bV_of, rI, rV, rL, rP, rT, rZ_of, rC_of, if_pos, if_neg, if_true, if_false]
    rw [b1]
    simp (disch := omega) only [f_X5_find_46, gI, uI, cI_of, aI_of, sI_of, mnI_of, mxI_of, abI_of, dvI_of, rmI_of, bI_of, bV_of, rI, rV, rL, rP, rT, rZ_of, rC_of, if_pos, if_neg, if_true, if_false]
    have d1' := d1 (f_X5_find_73 c0 c N)
    rw [show ((0 : Nat) : Int) = 0 from rfl] at d1'
    rw [d1', f_X5_find_73]
    have hcn3 := hc3.1
    simp (disch := omega) only [hcn3, r1, rs, ml, gI, uI, cI_of, aI_of, sI_of, mnI_of, mxI_of, abI_of, dvI_of, rmI_of, bI_of, bV_of, rI, rV, rL, rP, rT, rZ_of, rC_of, if_pos, if_neg, if_true, if_false]
    rw [← hS4]
    unfold f_X5_tellGenerations
    simp (disch := omega) only [gI, uI, cI_of, aI_of, sI_of, mnI_of, mxI_of, abI_of, dvI_of, rmI_of, bI_of, bV_of, rI, rV, rL, rP, rT, rZ_of, rC_of, if_pos, if_neg, if_true, if_false]
    rw [← hS5]
    simp (disch := omega) only [g1, j1, gI, uI, cI_of, aI_of, sI_of, mnI_of, mxI_of, abI_of, dvI_of, rmI_of, bI_of, bV_of, rI, rV, rL, rP, rT, rZ_of, rC_of, if_pos, if_neg, if_true, if_false]
    rw [← hS8]
    exact l1
  · rw [l4.at (cl 5 (by omega)), l4.at (cl 6 (by omega)), l4.at (cl 7 (by omega)), l4.at (cl 8 (by omega)), l4.at (cl 9 (by omega)), l4.at (cl 10 (by omega))]
    exact cells7 q x y
  · rw [l4.at (cl 11 (by omega)), l4.at (cl 12 (by omega))]; exact rows k x y
theorem findC_0 (N : Nat) (h : S.1 c 1 = 0) (hoff : Off c0 c) : f_X5_find N S c0 c = some (pI (pI S c0 0 0) c0 1 0) := by
  have e : (pI (pI S c0 0 0) c0 1 0).1 c 1 = 0 := by rw [pI_cell (by unfold Off at hoff; omega), pI_cell (by unfold Off at hoff; omega)]; exact h
  unfold f_X5_find
  simp (disch := omega) only [e, gI, uI, cI_of, aI_of, sI_of, mnI_of, mxI_of, abI_of, dvI_of, rmI_of, bI_of, bV_of, rI, rV, rL, rP, rT, rZ_of, rC_of, if_pos, if_neg, if_true, if_false]
end FINDC
