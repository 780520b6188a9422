/-! acts, both sides -/
def acN (n sort b : Int) : Int := if sort = 9 then b else n
def acZ (z sort a : Int) : Int := if sort = 8 then a else z
noncomputable def acS (n : Int) (s : Int → Int) (z sort a b : Int) : Int → Int := if sort = 0 then blS 0 s n else if sort = 1 then blS 1 s n else if sort = 2 then ftS n s z else if sort = 3 then turnS s n else if sort = 4 then capS s a else if sort = 5 then liftS s a else if sort = 6 then scaleS s a b else if sort = 7 then setS s a b else if sort = 8 then s else cutS s a
noncomputable def acV (n : Int) (s : Int → Int) (z sort a b : Int) : Int := if sort = 2 then cntF (fun i => ftS n s z i < s i) n.toNat 0 0 else if sort = 3 then s (n - 1) else if sort = 4 then cntF (fun i => a < s i) n.toNat 0 0 else if sort = 5 then minF (liftS s a) n.toNat 0 999 else if sort = 6 then maxF (scaleS s a b) n.toNat 0 0 else if sort = 7 then s a else if sort = 8 then z else n - b
theorem rf_ok {n sort a b : Int} (h : rfF n sort a b = -1) : n ≠ 0 ∧ ((sort = 7 ∨ sort = 9) → 0 ≤ a ∧ a < n) ∧ bnF n sort a b := by
  unfold rfF at h
  by_cases h1 : n = 0
  · rw [if_pos h1] at h; omega
  · rw [if_neg h1] at h
    by_cases h2 : (sort = 7 ∨ sort = 9) ∧ ¬ (0 ≤ a ∧ a < n)
    · rw [if_pos h2] at h; omega
    · rw [if_neg h2] at h
      refine ⟨h1, fun g => Decidable.byContradiction (fun k => h2 ⟨g, k⟩), ?_⟩
      by_cases h3 : bnF n sort a b
      · exact h3
      · rw [bnI_n h3, if_pos rfl] at h; omega
theorem ac_ok {n z sort a b : Int} {s : Int → Int} (h0 : 1 ≤ n) (hn : n ≤ 48) (hb : CvB n s) (hz : 0 ≤ z ∧ z ≤ 999) (hs : 0 ≤ sort ∧ sort ≤ 9) (h : rfF n sort a b = -1) : (1 ≤ acN n sort b ∧ acN n sort b ≤ 48) ∧ CvB (acN n sort b) (acS n s z sort a b) ∧ (0 ≤ acZ z sort a ∧ acZ z sort a ≤ 999) := by
  obtain ⟨k1, k2, k3, k4, k5, k6, k7⟩ := rf_ok h
  refine ⟨?_, ?_, ?_⟩
  · unfold acN
    by_cases e : sort = 9
    · rw [if_pos e]; have := k7 e; have := k2 (Or.inr e); omega
    · rw [if_neg e]; omega
  · by_cases e9 : sort = 9
    · subst e9
      have q := k2 (Or.inr rfl)
      have q2 := k7 rfl
      intro i x y
      have y : i < b := y
      show 0 ≤ s (a + i) ∧ s (a + i) ≤ 999
      exact hb (a + i) (by omega) (by omega)
    · have en : acN n sort b = n := if_neg e9
      rw [en]
      unfold acS
      by_cases e0 : sort = 0
      · rw [if_pos e0]; exact blS_b hb
      rw [if_neg e0]
      by_cases e1 : sort = 1
      · rw [if_pos e1]; exact blS_b hb
      rw [if_neg e1]
      by_cases e2 : sort = 2
      · rw [if_pos e2]; exact ftS_b h0 hn hb
      rw [if_neg e2]
      by_cases e3 : sort = 3
      · rw [if_pos e3]; intro i x y; exact hb (n - 1 - i) (by omega) (by omega)
      rw [if_neg e3]
      by_cases e4 : sort = 4
      · rw [if_pos e4]; have := k3 (Or.inl e4); exact capS_b hb (by omega)
      rw [if_neg e4]
      by_cases e5 : sort = 5
      · rw [if_pos e5]; exact liftS_b
      rw [if_neg e5]
      by_cases e6 : sort = 6
      · rw [if_pos e6]; have := k5 e6; exact scaleS_b hb (by omega) (by omega) (by omega)
      rw [if_neg e6]
      by_cases e7 : sort = 7
      · rw [if_pos e7]; have := k6 e7; intro i x y; unfold setS
        by_cases g : i = a
        · rw [if_pos g]; omega
        · rw [if_neg g]; exact hb i x y
      rw [if_neg e7, if_pos (by omega)]
      exact hb
  · unfold acZ
    by_cases e : sort = 8
    · rw [if_pos e]; have := k3 (Or.inr e); omega
    · rw [if_neg e]; omega
section ACTC
variable {S : S2} {c0 c : Nat} {n z : Int} {s : Int → Int}
abbrev unA (c0 c : Nat) : Nat → Prop := fun j => j = c ∨ j = c + 1 ∨ j = c0 + 13
theorem undergo_of (N : Nat) (hoff : Off c0 c) (hc : CvC S c n s z) (hP : CP S c0 n s z) (h0 : 1 ≤ n) (hn : n ≤ 48) (hb : CvB n s) {sort a b : Int} (hs : 0 ≤ sort ∧ sort ≤ 9) (h : rfF n sort a b = -1) (hN : 300 ≤ N) : ∃ S' v, f_X0_undergo N S c sort a b c0 = some (v, S') ∧ CvC S' c (acN n sort b) (acS n s z sort a b) (acZ z sort a) ∧ Fr (unA c0 c) S S' ∧ (2 ≤ sort → v = acV n s z sort a b) := by
  obtain ⟨k1, k2, k3, k4, k5, k6, k7⟩ := rf_ok h
  have r1 : ∀ j, rowOf c j → unA c0 c j := fun j h => Or.inr (Or.inl h)
  rcases (show sort = 0 ∨ sort = 1 ∨ sort = 2 ∨ sort = 3 ∨ sort = 4 ∨ sort = 5 ∨ sort = 6 ∨ sort = 7 ∨ sort = 8 ∨ sort = 9 by omega) with rfl | rfl | rfl | rfl | rfl | rfl | rfl | rfl | rfl | rfl
  · obtain ⟨S', e1, e2, e3⟩ := blend_of N (m := 0) hc hb h0 hn (Or.inl rfl) (by omega)
    refine ⟨S', n, ?_, e2, e3.mono r1, fun q => by omega⟩
    unfold f_X0_undergo
    simp (disch := omega) only [f_X0_undergo_67, e1, gI, uI, cI_of, aI_of, sI_of, mnI_of, mxI_of, abI_of, dvI_of, rmI_of, bI_of, bV_of, rI, rV, rL, rP, rT, rZ_of, rC_of, if_pos, if_neg, if_true, if_false]
  · obtain ⟨S', e1, e2, e3⟩ := blend_of N (m := 1) hc hb h0 hn (Or.inr rfl) (by omega)
    refine ⟨S', n, ?_, e2, e3.mono r1, fun q => by omega⟩
    unfold f_X0_undergo
    simp (disch := omega) only [f_X0_undergo_67, e1, gI, uI, cI_of, aI_of, sI_of, mnI_of, mxI_of, abI_of, dvI_of, rmI_of, bI_of, bV_of, rI, rV, rL, rP, rT, rZ_of, rC_of, if_pos, if_neg, if_true, if_false]
  · obtain ⟨S', e1, e2, e3⟩ := flattenC_of N hoff hc hP h0 hn hb (by omega)
    refine ⟨S', _, ?_, e2, e3.mono (fun j h => h.elim (fun h => Or.inr (Or.inr h)) (fun h => Or.inr (Or.inl h))), fun _ => rfl⟩
    unfold f_X0_undergo
    simp (disch := omega) only [e1, gI, uI, cI_of, aI_of, sI_of, mnI_of, mxI_of, abI_of, dvI_of, rmI_of, bI_of, bV_of, rI, rV, rL, rP, rT, rZ_of, rC_of, if_pos, if_neg, if_true, if_false]
    rfl
  · obtain ⟨S', e1, e2, e3⟩ := reverse_of N hc h0 hn (by omega)
    refine ⟨S', _, ?_, e2, e3.mono r1, fun _ => rfl⟩
    unfold f_X0_undergo
    simp (disch := omega) only [e1, gI, uI, cI_of, aI_of, sI_of, mnI_of, mxI_of, abI_of, dvI_of, rmI_of, bI_of, bV_of, rI, rV, rL, rP, rT, rZ_of, rC_of, if_pos, if_neg, if_true, if_false]
    rfl
  · have q := k3 (Or.inl rfl)
    obtain ⟨S', e1, e2, e3⟩ := cap_of N hc hb (by omega) hn (a := a) (by omega) (by omega) (by omega)
    refine ⟨S', _, ?_, e2, e3.mono r1, fun _ => rfl⟩
    unfold f_X0_undergo
    simp (disch := omega) only [e1, gI, uI, cI_of, aI_of, sI_of, mnI_of, mxI_of, abI_of, dvI_of, rmI_of, bI_of, bV_of, rI, rV, rL, rP, rT, rZ_of, rC_of, if_pos, if_neg, if_true, if_false]
    rfl
  · have q := k4 rfl
    obtain ⟨S', e1, e2, e3⟩ := raise_of N hc hb (by omega) hn (a := a) (by omega) (by omega) (by omega)
    refine ⟨S', _, ?_, e2, e3.mono r1, fun _ => rfl⟩
    unfold f_X0_undergo
    simp (disch := omega) only [e1, gI, uI, cI_of, aI_of, sI_of, mnI_of, mxI_of, abI_of, dvI_of, rmI_of, bI_of, bV_of, rI, rV, rL, rP, rT, rZ_of, rC_of, if_pos, if_neg, if_true, if_false]
    rfl
  · have q := k5 rfl
    obtain ⟨S', e1, e2, e3⟩ := stretch_of N hc hb (by omega) hn (a := a) (b := b) (by omega) (by omega) (by omega) (by omega) (by omega)
    refine ⟨S', _, ?_, e2, e3.mono r1, fun _ => rfl⟩
    unfold f_X0_undergo
    simp (disch := omega) only [e1, gI, uI, cI_of, aI_of, sI_of, mnI_of, mxI_of, abI_of, dvI_of, rmI_of, bI_of, bV_of, rI, rV, rL, rP, rT, rZ_of, rC_of, if_pos, if_neg, if_true, if_false]
    rfl
  · have q := k2 (Or.inl rfl)
    have e1 := put_of N hc hn (p := a) (v := b) q.1 q.2
    refine ⟨_, s a, ?_, hc.put a b, (Fr.refl.pI (A := unA c0 c) (Or.inr (Or.inl rfl))), fun _ => rfl⟩
    unfold f_X0_undergo
    simp (disch := omega) only [e1, gI, uI, cI_of, aI_of, sI_of, mnI_of, mxI_of, abI_of, dvI_of, rmI_of, bI_of, bV_of, rI, rV, rL, rP, rT, rZ_of, rC_of, if_pos, if_neg, if_true, if_false]
  · have e1 := hush_of N hc (v := a)
    refine ⟨_, z, ?_, hc.hush a, (Fr.refl.pI (A := unA c0 c) (Or.inl rfl)), fun _ => rfl⟩
    unfold f_X0_undergo
    simp (disch := omega) only [e1, gI, uI, cI_of, aI_of, sI_of, mnI_of, mxI_of, abI_of, dvI_of, rmI_of, bI_of, bV_of, rI, rV, rL, rP, rT, rZ_of, rC_of, if_pos, if_neg, if_true, if_false]
  · have q := k2 (Or.inr rfl)
    have q2 := k7 rfl
    obtain ⟨S', e1, e2, e3⟩ := keepOnly_of N hc hn (p := a) (k := b) (by omega) (by omega) (by omega) (by omega)
    refine ⟨S', _, ?_, e2, e3.mono (fun j h => h.elim (fun h => Or.inl h) (fun h => Or.inr (Or.inl h))), fun _ => rfl⟩
    unfold f_X0_undergo
    simp (disch := omega) only [e1, gI, uI, cI_of, aI_of, sI_of, mnI_of, mxI_of, abI_of, dvI_of, rmI_of, bI_of, bV_of, rI, rV, rL, rP, rT, rZ_of, rC_of, if_pos, if_neg, if_true, if_false]
    rfl
end ACTC
section ACTM
variable {S : S2} {n z nl r : Int} {s pl : Int → Int}
theorem keptNow_of (N : Nat) (hc : CvM S 8 n s z) (hb : CvB n s) (h0 : 1 ≤ n) (hn : n ≤ 48) (hz : 0 ≤ z ∧ z ≤ 999) (hB : LnB nl r pl) (hL : LnM S nl r pl) (hN : 500 ≤ N) : ∃ S', f_X11_keptNow N S = some (pkK n s z, S') ∧ FrM findsA findsF S S' := by
  obtain ⟨S', e1, e2, e3, e4⟩ := findsM_of N hc hb h0 hn hz.1 hz.2 hB hL hN
  refine ⟨S', ?_, e4⟩
  have e := e2.2.2
  unfold f_X11_keptNow
  rw [e1]
  simp (disch := omega) only [e, gI, uI, cI_of, aI_of, sI_of, mnI_of, mxI_of, abI_of, dvI_of, rmI_of, bI_of, bV_of, rI, rV, rL, rP, rT, rZ_of, rC_of, if_pos, if_neg, if_true, if_false]
theorem doNow_of (N : Nat) (hc : CvM S 8 n s z) (h0 : 1 ≤ n) (hn : n ≤ 48) (hb : CvB n s) (hz : 0 ≤ z ∧ z ≤ 999) (hB : LnB nl r pl) (hL : LnM S nl r pl) {sort a b : Int} (hs : 0 ≤ sort ∧ sort ≤ 9) (h : rfF n sort a b = -1) (hN : 600 ≤ N) : ∃ S', f_X11_doNow N S sort a b = some (if sort ≤ 1 then pkK (acN n sort b) (acS n s z sort a b) (acZ z sort a) else acV n s z sort a b, S') ∧ CvM S' 8 (acN n sort b) (acS n s z sort a b) (acZ z sort a) ∧ FrM flatMA findsF S S' ∧ (∀ k, 50 ≤ k → S'.1 8 k = S.1 8 k) := by
  obtain ⟨k1, k2, k3, k4, k5, k6, k7⟩ := rf_ok h
  have m1 : ∀ {S' : S2}, Fr is8_22 S S' → FrM flatMA findsF S S' := fun f => (FrM.of f (by decide)).mono (fun j h => h.elim (fun h => Or.inl h) (fun h => Or.inr (by omega))) (fun _ h => h)
  have m2 : ∀ {S' : S2}, Fr is8 S S' → FrM flatMA findsF S S' := fun f => (FrM.of f (by decide)).mono (fun j h => Or.inl h) (fun _ h => h)
  have bl : ∀ m, (m = 0 ∨ m = 1) → ∃ S1 S', f_X11_blends N S m = some S1 ∧ f_X11_keptNow N S1 = some (pkK n (blS m s n) z, S') ∧ CvM S' 8 n (blS m s n) z ∧ FrM flatMA findsF S S' ∧ (∀ k, 50 ≤ k → S'.1 8 k = S.1 8 k) := fun m hm => by
    obtain ⟨S1, e1, e2, e3⟩ := blendsM_of N (m := m) hc hb (by omega) hn hm (by omega)
    obtain ⟨S', f1, f2⟩ := keptNow_of N e2 (blS_b hb) h0 hn hz hB (hL.kept (m1 e3.1) (by decide) (by decide) (by decide)) (by omega)
    exact ⟨S1, S', e1, f1, e2.keptM f2 (by decide) (by decide), (m1 e3.1).trans f2 (fun _ h => h) (fun j h => Or.inr (by have h : 13 ≤ j ∧ j ≤ 21 := h; omega)) (fun _ h => h) (fun _ h => h), fun k hk => by rw [f2.log (by decide)]; exact e3.2 k hk⟩
  rcases (show sort = 0 ∨ sort = 1 ∨ sort = 2 ∨ sort = 3 ∨ sort = 4 ∨ sort = 5 ∨ sort = 6 ∨ sort = 7 ∨ sort = 8 ∨ sort = 9 by omega) with rfl | rfl | rfl | rfl | rfl | rfl | rfl | rfl | rfl | rfl
  · obtain ⟨S1, S', e1, e2, e3⟩ := bl 0 (Or.inl rfl)
    refine ⟨S', ?_, e3⟩
    unfold f_X11_doNow
    simp (disch := omega) only [e1, e2, gI, uI, cI_of, aI_of, sI_of, mnI_of, mxI_of, abI_of, dvI_of, rmI_of, bI_of, bV_of, rI, rV, rL, rP, rT, rZ_of, rC_of, if_pos, if_neg, if_true, if_false]
    rfl
  · obtain ⟨S1, S', e1, e2, e3⟩ := bl 1 (Or.inr rfl)
    refine ⟨S', ?_, e3⟩
    unfold f_X11_doNow
    simp (disch := omega) only [e1, e2, gI, uI, cI_of, aI_of, sI_of, mnI_of, mxI_of, abI_of, dvI_of, rmI_of, bI_of, bV_of, rI, rV, rL, rP, rT, rZ_of, rC_of, if_pos, if_neg, if_true, if_false]
    rfl
  · obtain ⟨S', e1, e2⟩ := flattensM_of N hc hb h0 hn hz.1 hz.2 hB hL (by omega)
    refine ⟨S', ?_, e2⟩
    unfold f_X11_doNow
    simp (disch := omega) only [e1, gI, uI, cI_of, aI_of, sI_of, mnI_of, mxI_of, abI_of, dvI_of, rmI_of, bI_of, bV_of, rI, rV, rL, rP, rT, rZ_of, rC_of, if_pos, if_neg, if_true, if_false]
    rfl
  · obtain ⟨S', e1, e2, e3⟩ := turns_of N hc h0 hn (by omega)
    refine ⟨S', ?_, e2, m1 e3.1, e3.2⟩
    unfold f_X11_doNow
    simp (disch := omega) only [e1, gI, uI, cI_of, aI_of, sI_of, mnI_of, mxI_of, abI_of, dvI_of, rmI_of, bI_of, bV_of, rI, rV, rL, rP, rT, rZ_of, rC_of, if_pos, if_neg, if_true, if_false]
    rfl
  · have q := k3 (Or.inl rfl)
    obtain ⟨S', e1, e2, e3⟩ := clips_of N hc hb (by omega) hn (a := a) (by omega) (by omega) (by omega)
    refine ⟨S', ?_, e2, m1 e3.1, e3.2⟩
    unfold f_X11_doNow
    simp (disch := omega) only [e1, gI, uI, cI_of, aI_of, sI_of, mnI_of, mxI_of, abI_of, dvI_of, rmI_of, bI_of, bV_of, rI, rV, rL, rP, rT, rZ_of, rC_of, if_pos, if_neg, if_true, if_false]
    rfl
  · have q := k4 rfl
    obtain ⟨S', e1, e2, e3⟩ := lifts_of N hc hb h0 hn (a := a) (by omega) (by omega) (by omega)
    refine ⟨S', ?_, e2, m2 e3.1, e3.2⟩
    unfold f_X11_doNow
    simp (disch := omega) only [e1, gI, uI, cI_of, aI_of, sI_of, mnI_of, mxI_of, abI_of, dvI_of, rmI_of, bI_of, bV_of, rI, rV, rL, rP, rT, rZ_of, rC_of, if_pos, if_neg, if_true, if_false]
    rfl
  · have q := k5 rfl
    obtain ⟨S', e1, e2, e3⟩ := scales_of N hc hb (by omega) hn (a := a) (b := b) (by omega) (by omega) (by omega) (by omega) (by omega)
    refine ⟨S', ?_, e2, m2 e3.1, e3.2⟩
    unfold f_X11_doNow
    simp (disch := omega) only [e1, gI, uI, cI_of, aI_of, sI_of, mnI_of, mxI_of, abI_of, dvI_of, rmI_of, bI_of, bV_of, rI, rV, rL, rP, rT, rZ_of, rC_of, if_pos, if_neg, if_true, if_false]
    rfl
  · have q := k2 (Or.inl rfl)
    have e1 := sets_of N hc hn (p := a) (v := b) q.1 q.2
    refine ⟨_, ?_, hc.put b (by omega), m2 (Fr.refl.pI (A := is8) rfl), fun k hk => by rw [pI_idx (by omega)]⟩
    unfold f_X11_doNow
    simp (disch := omega) only [e1, gI, uI, cI_of, aI_of, sI_of, mnI_of, mxI_of, abI_of, dvI_of, rmI_of, bI_of, bV_of, rI, rV, rL, rP, rT, rZ_of, rC_of, if_pos, if_neg, if_true, if_false]
    rfl
  · have e1 := hc.2.1
    refine ⟨pI S 8 49 a, ?_, ⟨by rw [pI_idx (by decide)]; exact hc.1, pI_eq, fun i x y => by rw [pI_idx (by have : i < n := y; omega)]; exact hc.2.2 i x y⟩, m2 (Fr.refl.pI (A := is8) rfl), fun k hk => by rw [pI_idx (by omega)]⟩
    unfold f_X11_doNow
    simp (disch := omega) only [e1, gI, uI, cI_of, aI_of, sI_of, mnI_of, mxI_of, abI_of, dvI_of, rmI_of, bI_of, bV_of, rI, rV, rL, rP, rT, rZ_of, rC_of, if_pos, if_neg, if_true, if_false]
    rfl
  · have q := k2 (Or.inr rfl)
    have q2 := k7 rfl
    obtain ⟨S', e1, e2, e3, e4⟩ := cuts_of N hc hn (p := a) (k := b) (by omega) (by omega) (by omega) (by omega)
    refine ⟨S', ?_, e2, m1 e3, fun k hk => e4 k (by omega)⟩
    unfold f_X11_doNow
    simp (disch := omega) only [e1, gI, uI, cI_of, aI_of, sI_of, mnI_of, mxI_of, abI_of, dvI_of, rmI_of, bI_of, bV_of, rI, rV, rL, rP, rT, rZ_of, rC_of, if_pos, if_neg, if_true, if_false]
    rfl
end ACTM
