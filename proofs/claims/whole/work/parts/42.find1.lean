/-! the class's find: places come -/
theorem pI_up {S : S2} {i : Nat} {k v : Int} : (pI S i k v).1 i = upI (S.1 i) k v := by
  funext x
  rw [pI_at]; rfl
section COME
variable {S : S2} {c0 c : Nat} {n z t : Int} {s o : Int → Int} {T : PT}
theorem beginC_of (N : Nat) (hT : CT S c0 n s T) (h0 : 0 ≤ tc T) (h1 : tc T < 48) (hb : ∀ q, 0 ≤ q → q < n → -1 ≤ tb T q ∧ tb T q < tc T) {p : Int} (h2 : 0 ≤ p) (h3 : p < n) (hn : n ≤ 48) : ∃ S', f_X5_begin N S c0 p (s p) = some S' ∧ CT S' c0 n s (stB p T) ∧ Fr (pkA0 c0) S S' := by
  obtain ⟨k0, k1, k2⟩ := hT
  obtain ⟨S', hS'⟩ : ∃ S', S' = pI (pI (pI (pI (pI (pI (pI (pI S (c0 + 5) (tc T) p) (c0 + 6) (tc T) (s p)) (c0 + 7) (tc T) (-1)) (c0 + 9) (tc T) (-1)) (c0 + 3) (tc T) p) (c0 + 4) (tc T) p) (c0 + 2) p (tc T)) c0 0 (tc T + 1) := ⟨_, rfl⟩
  have r0 : S'.1 c0 0 = tc T + 1 := by rw [hS', pI_eq]
  have r2 : S'.1 (c0 + 2) = upI (S.1 (c0 + 2)) p (tc T) := by rw [hS']; simp (disch := omega) only [pI_row, pI_up]
  have r3 : S'.1 (c0 + 3) = upI (S.1 (c0 + 3)) (tc T) p := by rw [hS']; simp (disch := omega) only [pI_row, pI_up]
  have r4 : S'.1 (c0 + 4) = upI (S.1 (c0 + 4)) (tc T) p := by rw [hS']; simp (disch := omega) only [pI_row, pI_up]
  have r5 : S'.1 (c0 + 5) = upI (S.1 (c0 + 5)) (tc T) p := by rw [hS']; simp (disch := omega) only [pI_row, pI_up]
  have r6 : S'.1 (c0 + 6) = upI (S.1 (c0 + 6)) (tc T) (s p) := by rw [hS']; simp (disch := omega) only [pI_row, pI_up]
  have r7 : S'.1 (c0 + 7) = upI (S.1 (c0 + 7)) (tc T) (-1) := by rw [hS']; simp (disch := omega) only [pI_row, pI_up]
  have r8 : S'.1 (c0 + 8) = S.1 (c0 + 8) := by rw [hS']; simp (disch := omega) only [pI_row, pI_up]
  have r9 : S'.1 (c0 + 9) = upI (S.1 (c0 + 9)) (tc T) (-1) := by rw [hS']; simp (disch := omega) only [pI_row, pI_up]
  refine ⟨S', ?_, ⟨r0, fun c a b => ?_, ?_⟩, ?_⟩
  · rw [hS']
    unfold f_X5_begin
    simp (disch := omega) only [k0, pI_cell, gI, uI, cI_of, aI_of, sI_of, mnI_of, mxI_of, abI_of, dvI_of, rmI_of, bI_of, bV_of, rI, rV, rL, rP, rT, rZ_of, rC_of, if_pos, if_neg, if_true, if_false]
  · have b : c < tc T + 1 := b
    show S'.1 (c0 + 5) c = upI (tp T) (tc T) p c ∧ S'.1 (c0 + 6) c = s (upI (tp T) (tc T) p c) ∧ S'.1 (c0 + 7) c = upI (tv T) (tc T) (-1) c ∧ S'.1 (c0 + 9) c = upI (ta T) (tc T) (-1) c ∧ (upI (ta T) (tc T) (-1) c ≠ -1 → S'.1 (c0 + 8) c = td T c)
    rw [r5, r6, r7, r8, r9]
    by_cases e : c = tc T
    · subst e
      simp only [upI_eq]
      exact ⟨trivial, trivial, trivial, trivial, fun w => absurd rfl w⟩
    · simp (disch := omega) only [upI_ne]
      exact k1 c a (by omega)
  · rw [r2, r3, r4]
    exact k2.begin hb h0
  · rw [hS']
    exact (((((((Fr.refl.pI (A := pkA0 c0) (by omega)).pI (by omega)).pI (by omega)).pI (by omega)).pI (by omega)).pI (by omega)).pI (by omega)).pI (by omega)
theorem come_of (N : Nat) (hoff : Off c0 c) (hc : CvC S c n s z) (hb : CvB n s) (hn : n ≤ 48) (hT : CT S c0 n s T) (hI : PI n s o t (tc T) (tp T) (tv T) (td T) (ta T) (tb T)) (ho : Srt 0 n (bef s) o) (h0 : 0 ≤ t) (h1 : t < n) : ∃ S', f_X5_come N S c0 c (o t) = some S' ∧ CT S' c0 n s (stp n s (o t) T) ∧ Fr (pkA0 c0) S S' := by
  obtain ⟨r, np, -, -⟩ := hI.now ho h0 h1
  obtain ⟨⟨i1, i2⟩, i3, i4, i5, i6, -⟩ := hI
  generalize o t = p at *
  obtain ⟨a, ha⟩ : ∃ a, a = nbr n T (p - 1) := ⟨_, rfl⟩
  obtain ⟨b, hb'⟩ : ∃ b, b = nbr n T (p + 1) := ⟨_, rfl⟩
  have hcn := hc.1
  have es := hc.2.2 p r.1 r.2
  obtain ⟨k0, k1, k2⟩ := id hT
  have oL : 0 ≤ p - 1 → S.1 (c0 + 2) (p - 1) = a ∧ tb T (p - 1) = a := fun q => by
    rw [ha, nbr_in q (by omega)]
    refine ⟨?_, rfl⟩
    by_cases w : tb T (p - 1) = -1
    · rw [k2.1 _ q (by omega) w, w]
    · exact (k2.2.2 _ q (by omega) w (Or.inr (by rw [show p - 1 + 1 = p by omega]; exact np))).1
  have oR : p + 1 < n → S.1 (c0 + 2) (p + 1) = b ∧ tb T (p + 1) = b := fun q => by
    rw [hb', nbr_in (by omega) q]
    refine ⟨?_, rfl⟩
    by_cases w : tb T (p + 1) = -1
    · rw [k2.1 _ (by omega) q w, w]
    · exact (k2.2.1 _ (by omega) q w (Or.inr (by rw [show p + 1 - 1 = p by omega]; exact np))).1
  have zL : ¬ 0 ≤ p - 1 → a = -1 := fun q => by rw [ha, nbr_out (by omega)]
  have zR : ¬ p + 1 < n → b = -1 := fun q => by rw [hb', nbr_out (by omega)]
  have ba : -1 ≤ a ∧ a < 48 := by
    by_cases q : 0 ≤ p - 1
    · have := i3 _ q (by omega); rw [(oL q).2] at this; omega
    · have := zL q; omega
  have bb : -1 ≤ b ∧ b < 48 := by
    by_cases q : p + 1 < n
    · have := i3 _ (by omega) q; rw [(oR q).2] at this; omega
    · have := zR q; omega
  -- down to where both neighbours are known
  have down : ∀ S', f_X5_come_39 c0 c N p a b S = some S' → f_X5_come N S c0 c p = some S' := fun S' h => by
    have d16 : f_X5_come_16 c0 c N p a S = some S' := by
      rw [f_X5_come_16]
      by_cases q : p + 1 < n
      · simp (disch := omega) only [hcn, (oR q).1, gI, uI, cI_of, aI_of, sI_of, mnI_of, mxI_of, abI_of, dvI_of, rmI_of, bI_of, bV_of, rI, rV, rL, rP, rT, rZ_of, rC_of, if_pos, if_neg, if_true, if_false]
        exact h
      · have := zR q
        rw [this] at h
        simp (disch := omega) only [hcn, gI, uI, cI_of, aI_of, sI_of, mnI_of, mxI_of, abI_of, dvI_of, rmI_of, bI_of, bV_of, rI, rV, rL, rP, rT, rZ_of, rC_of, if_pos, if_neg, if_true, if_false]
        exact h
    unfold f_X5_come
    by_cases q : 0 ≤ p - 1
    · simp (disch := omega) only [(oL q).1, gI, uI, cI_of, aI_of, sI_of, mnI_of, mxI_of, abI_of, dvI_of, rmI_of, bI_of, bV_of, rI, rV, rL, rP, rT, rZ_of, rC_of, if_pos, if_neg, if_true, if_false]
      exact d16
    · have := zL q
      rw [this] at d16
      simp (disch := omega) only [gI, uI, cI_of, aI_of, sI_of, mnI_of, mxI_of, abI_of, dvI_of, rmI_of, bI_of, bV_of, rI, rV, rL, rP, rT, rZ_of, rC_of, if_pos, if_neg, if_true, if_false]
      exact d16
  unfold stp
  rw [← ha, ← hb']
  by_cases g1 : a = -1 ∧ b = -1
  · rw [if_pos g1]
    obtain ⟨S', e1, e2, e3⟩ := beginC_of N hT i1 (by omega) i3 r.1 r.2 hn
    refine ⟨S', down S' ?_, e2, e3⟩
    rw [f_X5_come_39]
    simp (disch := omega) only [es, e1, gI, uI, cI_of, aI_of, sI_of, mnI_of, mxI_of, abI_of, dvI_of, rmI_of, bI_of, bV_of, rI, rV, rL, rP, rT, rZ_of, rC_of, if_pos, if_neg, if_true, if_false]
  · rw [if_neg g1]
    have d66 : ∀ S', f_X5_come_66 c0 c N p a b S = some S' → f_X5_come_39 c0 c N p a b S = some S' := fun S' h => by
      rw [f_X5_come_39]
      by_cases q : a = -1
      · simp (disch := omega) only [gI, uI, cI_of, aI_of, sI_of, mnI_of, mxI_of, abI_of, dvI_of, rmI_of, bI_of, bV_of, rI, rV, rL, rP, rT, rZ_of, rC_of, if_pos, if_neg, if_true, if_false]
        exact h
      · simp (disch := omega) only [gI, uI, cI_of, aI_of, sI_of, mnI_of, mxI_of, abI_of, dvI_of, rmI_of, bI_of, bV_of, rI, rV, rL, rP, rT, rZ_of, rC_of, if_pos, if_neg, if_true, if_false]
        exact h
    by_cases gb : b = -1
    · -- to the left one
      have qa : a ≠ -1 := fun w => g1 ⟨w, gb⟩
      have q : 0 ≤ p - 1 := by
        by_cases q : 0 ≤ p - 1
        · exact q
        · exact absurd (zL q) qa
      have eB := (oL q).2
      rw [if_pos (Or.inr (Or.inl gb)), if_neg qa]
      refine ⟨pI (pI S (c0 + 4) a p) (c0 + 2) p a, down _ (d66 _ ?_), ⟨?_, fun c x y => ?_, ?_⟩, (Fr.refl.pI (A := pkA0 c0) (by omega)).pI (by omega)⟩
      · rw [f_X5_come_66]
        simp (disch := omega) only [gI, uI, cI_of, aI_of, sI_of, mnI_of, mxI_of, abI_of, dvI_of, rmI_of, bI_of, bV_of, rI, rV, rL, rP, rT, rZ_of, rC_of, if_pos, if_neg, if_true, if_false]
      · rw [pI_cell (by omega), pI_cell (by omega)]; exact k0
      · simp (disch := omega) only [pI_cell]; exact k1 c x y
      · simp (disch := omega) only [pI_row, pI_up]
        have := k2.growL i5 q r.2 np (by rw [eB]; exact qa)
        rw [eB] at this
        exact this
    · by_cases ga : a = -1
      · have q : p + 1 < n := by
          by_cases q : p + 1 < n
          · exact q
          · exact absurd (zR q) gb
        have eB := (oR q).2
        rw [if_pos (Or.inl ga), if_pos ga]
        refine ⟨pI (pI S (c0 + 3) b p) (c0 + 2) p b, down _ (d66 _ ?_), ⟨?_, fun c x y => ?_, ?_⟩, (Fr.refl.pI (A := pkA0 c0) (by omega)).pI (by omega)⟩
        · rw [f_X5_come_66]
          simp (disch := omega) only [gI, uI, cI_of, aI_of, sI_of, mnI_of, mxI_of, abI_of, dvI_of, rmI_of, bI_of, bV_of, rI, rV, rL, rP, rT, rZ_of, rC_of, if_pos, if_neg, if_true, if_false]
        · rw [pI_cell (by omega), pI_cell (by omega)]; exact k0
        · simp (disch := omega) only [pI_cell]; exact k1 c x y
        · simp (disch := omega) only [pI_row, pI_up]
          have := k2.growR i5 r.1 q np (by rw [eB]; exact gb)
          rw [eB] at this
          exact this
      · have qL : 0 ≤ p - 1 := by
          by_cases q : 0 ≤ p - 1
          · exact q
          · exact absurd (zL q) ga
        have qR : p + 1 < n := by
          by_cases q : p + 1 < n
          · exact q
          · exact absurd (zR q) gb
        have eA := (oL qL).2
        have eB := (oR qR).2
        have nab : a ≠ b := fun w => i5 (p - 1) (p + 1) qL (by omega) qR (by rw [eA]; exact ga) (by rw [eA, eB]; exact w) p (by omega) (by omega) np
        rw [if_neg (by omega)]
        have la := i3 _ qL (by omega)
        have lb := i3 _ (by omega) qR
        rw [eA] at la
        rw [eB] at lb
        obtain ⟨l, hl⟩ : ∃ l, l = min a b := ⟨_, rfl⟩
        obtain ⟨g, hg⟩ : ∃ g, g = max a b := ⟨_, rfl⟩
        obtain ⟨x, y, bx, bY, fx, fy, ow⟩ := k2.join i4 qL qR np (by rw [eA]; exact ga) (by rw [eB]; exact gb) (by rw [eA, eB]; exact nab) (l := l) (g := g) (by rw [eA, eB]; exact hl) (by rw [eA, eB]; exact hg) (by omega)
        rw [eA] at fx
        rw [eB] at fy
        rw [← hl, ← hg]
        obtain ⟨S', hS'⟩ : ∃ S', S' = pI (pI (pI (pI (pI (pI (pI (pI S (c0 + 7) g p) (c0 + 8) g (s p)) (c0 + 9) g l) (c0 + 3) l x) (c0 + 4) l y) (c0 + 2) p l) (c0 + 2) x l) (c0 + 2) y l := ⟨_, rfl⟩
        have r2 : S'.1 (c0 + 2) = upI (upI (upI (S.1 (c0 + 2)) p l) x l) y l := by rw [hS']; simp (disch := omega) only [pI_row, pI_up]
        have r3 : S'.1 (c0 + 3) = upI (S.1 (c0 + 3)) l x := by rw [hS']; simp (disch := omega) only [pI_row, pI_up]
        have r4 : S'.1 (c0 + 4) = upI (S.1 (c0 + 4)) l y := by rw [hS']; simp (disch := omega) only [pI_row, pI_up]
        have r5 : S'.1 (c0 + 5) = S.1 (c0 + 5) := by rw [hS']; simp (disch := omega) only [pI_row, pI_up]
        have r6 : S'.1 (c0 + 6) = S.1 (c0 + 6) := by rw [hS']; simp (disch := omega) only [pI_row, pI_up]
        have r7 : S'.1 (c0 + 7) = upI (S.1 (c0 + 7)) g p := by rw [hS']; simp (disch := omega) only [pI_row, pI_up]
        have r8 : S'.1 (c0 + 8) = upI (S.1 (c0 + 8)) g (s p) := by rw [hS']; simp (disch := omega) only [pI_row, pI_up]
        have r9 : S'.1 (c0 + 9) = upI (S.1 (c0 + 9)) g l := by rw [hS']; simp (disch := omega) only [pI_row, pI_up]
        refine ⟨S', down _ (d66 _ ?_), ⟨?_, fun c u v => ?_, ?_⟩, ?_⟩
        · have j : f_X5_join N S c0 a b p (s p) = some S' := by
            rw [hS']
            unfold f_X5_join
            simp (disch := omega) only [gI, uI, cI_of, aI_of, sI_of, mnI_of, mxI_of, abI_of, dvI_of, rmI_of, bI_of, bV_of, rI, rV, rL, rP, rT, rZ_of, rC_of, if_pos, if_neg, if_true, if_false]
            rw [← hl, ← hg]
            simp (disch := omega) only [pI_cell, pI_eq, fx, fy, gI, uI, cI_of, aI_of, sI_of, mnI_of, mxI_of, abI_of, dvI_of, rmI_of, bI_of, bV_of, rI, rV, rL, rP, rT, rZ_of, rC_of, if_pos, if_neg, if_true, if_false]
          rw [f_X5_come_66]
          simp (disch := omega) only [es, j, gI, uI, cI_of, aI_of, sI_of, mnI_of, mxI_of, abI_of, dvI_of, rmI_of, bI_of, bV_of, rI, rV, rL, rP, rT, rZ_of, rC_of, if_pos, if_neg, if_true, if_false]
        · rw [hS']; simp (disch := omega) only [pI_cell]; exact k0
        · show S'.1 (c0 + 5) c = tp T c ∧ S'.1 (c0 + 6) c = s (tp T c) ∧ S'.1 (c0 + 7) c = upI (tv T) g p c ∧ S'.1 (c0 + 9) c = upI (ta T) g l c ∧ (upI (ta T) g l c ≠ -1 → S'.1 (c0 + 8) c = upI (td T) g (s p) c)
          have k := k1 c u v
          rw [r5, r6, r7, r8, r9]
          by_cases e : c = g
          · subst e
            simp only [upI_eq]
            exact ⟨k.1, k.2.1, trivial, trivial, fun _ => trivial⟩
          · simp (disch := omega) only [upI_ne]
            exact k
        · rw [r2, r3, r4]; exact ow
        · rw [hS']
          exact (((((((Fr.refl.pI (A := pkA0 c0) (by omega)).pI (by omega)).pI (by omega)).pI (by omega)).pI (by omega)).pI (by omega)).pI (by omega)).pI (by omega)
theorem CvC.off {S' : S2} (hc : CvC S c n s z) (hoff : Off c0 c) (f : Fr (pkA0 c0) S S') : CvC S' c n s z := hc.kept f (by unfold Off at hoff; show ¬ (c = c0 ∨ _); omega) (by unfold Off at hoff; show ¬ (c + 1 = c0 ∨ _); omega)
theorem findInit (hoff : Off c0 c) (hn : n ≤ 48) : ∀ (d N : Nat) (i : Int) (S : S2), 0 ≤ i → i + d = n → d < N → CvC S c n s z → (∀ q, 0 ≤ q → q < i → S.1 (c0 + 2) q = -1) → ∃ S', (∀ K, f_X5_find_25 c0 c K N i S = K S') ∧ (∀ q, 0 ≤ q → q < n → S'.1 (c0 + 2) q = -1) ∧ Fr (fun j => j = c0 + 2) S S' := by
  intro d
  induction d with
  | zero =>
    intro N i S h0 hi hN hc h
    obtain ⟨N, rfl⟩ : ∃ M, N = M + 1 := ⟨N - 1, by omega⟩
    have hcn := hc.1
    refine ⟨S, fun K => ?_, fun q a b => h q a (by omega), Fr.refl⟩
    rw [f_X5_find_25]
    simp (disch := omega) only [gI, uI, cI_of, aI_of, sI_of, mnI_of, mxI_of, abI_of, dvI_of, rmI_of, bI_of, bV_of, rI, rV, rL, rP, rT, rZ_of, rC_of, if_pos, if_neg, if_true, if_false]
  | succ d ih =>
    intro N i S h0 hi hN hc h
    obtain ⟨N, rfl⟩ : ∃ M, N = M + 1 := ⟨N - 1, by omega⟩
    have hcn := hc.1
    have fr : Fr (fun j => j = c0 + 2) S (pI S (c0 + 2) i (-1)) := Fr.refl.pI rfl
    obtain ⟨S', e1, e2, e3⟩ := ih N (i + 1) (pI S (c0 + 2) i (-1)) (by omega) (by omega) (by omega) (hc.off hoff (fr.mono (fun j h => by have h : j = c0 + 2 := h; show j = c0 ∨ _; omega))) (fun q a b => by
      by_cases w : q = i
      · rw [w, pI_eq]
      · rw [pI_idx w]; exact h q a (by omega))
    refine ⟨S', fun K => ?_, e2, fr.trans e3 (fun _ h => h) (fun _ h => h)⟩
    rw [f_X5_find_25]
    simp (disch := omega) only [hcn, gI, uI, cI_of, aI_of, sI_of, mnI_of, mxI_of, abI_of, dvI_of, rmI_of, bI_of, bV_of, rI, rV, rL, rP, rT, rZ_of, rC_of, if_pos, if_neg, if_true, if_false]
    exact e1 K
theorem findCome (hoff : Off c0 c) (hb : CvB n s) (hn : n ≤ 48) (ho : Srt 0 n (bef s) o) : ∀ (d N t : Nat) (S : S2), (t : Int) + d = n → d < N → CvC S c n s z → (∀ j, 0 ≤ j → j < n → S.1 (c0 + 1) j = o j) → CT S c0 n s (pst n s o t) → ∃ S', (∀ K, f_X5_find_48 c0 c K N t S = K S') ∧ CT S' c0 n s (pst n s o n.toNat) ∧ Fr (pkA0 c0) S S' := by
  intro d
  induction d with
  | zero =>
    intro N t S ht hN hc hr hT
    obtain ⟨N, rfl⟩ : ∃ M, N = M + 1 := ⟨N - 1, by omega⟩
    have hcn := hc.1
    refine ⟨S, fun K => ?_, by rw [show n.toNat = t by omega]; exact hT, Fr.refl⟩
    rw [f_X5_find_48]
    simp (disch := omega) only [gI, uI, cI_of, aI_of, sI_of, mnI_of, mxI_of, abI_of, dvI_of, rmI_of, bI_of, bV_of, rI, rV, rL, rP, rT, rZ_of, rC_of, if_pos, if_neg, if_true, if_false]
  | succ d ih =>
    intro N t S ht hN hc hr hT
    obtain ⟨N, rfl⟩ : ∃ M, N = M + 1 := ⟨N - 1, by omega⟩
    have hcn := hc.1
    have er := hr t (by omega) (by omega)
    obtain ⟨S1, e1, e2, e3⟩ := come_of N hoff hc hb hn hT (pst_inv ho t (by omega)) ho (by omega) (by omega)
    obtain ⟨S', f1, f2, f3⟩ := ih N (t + 1) S1 (by omega) (by omega) (hc.off hoff e3) (fun j a b => by rw [e3.at (by show ¬ (_ ∨ _); omega)]; exact hr j a b) e2
    refine ⟨S', fun K => ?_, f2, e3.trans f3 (fun _ h => h) (fun _ h => h)⟩
    rw [f_X5_find_48]
    simp (disch := omega) only [hcn, er, e1, gI, uI, cI_of, aI_of, sI_of, mnI_of, mxI_of, abI_of, dvI_of, rmI_of, bI_of, bV_of, rI, rV, rL, rP, rT, rZ_of, rC_of, if_pos, if_neg, if_true, if_false]
    rw [show ((t : Int) + 1) = ((t + 1 : Nat) : Int) by omega]
    exact f1 K
end COME
