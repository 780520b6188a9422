/-! the reference's match, and its finds, whole -/
def LnM (S : S2) (nl r : Int) (pl : Int → Int) : Prop := S.1 0 27 = nl ∧ S.1 0 28 = r ∧ ∀ i, 0 ≤ i → i < nl → S.1 10 i = pl i
theorem LnM.kept {A : Nat → Prop} {F : Int → Prop} {S S' : S2} {nl r : Int} {pl : Int → Int} (h : LnM S nl r pl) (f : FrM A F S S') (h1 : ¬ A 10) (h2 : ¬ F 27) (h3 : ¬ F 28) : LnM S' nl r pl := ⟨by rw [f.2.2 _ h2]; exact h.1, by rw [f.2.2 _ h3]; exact h.2.1, fun i a b => by rw [f.2.1 10 (by decide) h1]; exact h.2.2 i a b⟩
theorem MPk.kept {A : Nat → Prop} {F : Int → Prop} {S S' : S2} {n z : Int} {s : Int → Int} (h : MPk S n s z) (f : FrM A F S S') (h1 : ¬ A 13) (h2 : ¬ A 14) (h3 : ¬ A 15) (h4 : ¬ A 16) (h5 : ¬ A 18) (h6 : ¬ A 19) (g1 : ¬ F 35) (g2 : ¬ F 38) : MPk S' n s z := ⟨h.1.kept f h1 h2 h3 h4 g1, fun k a b => by rw [f.2.1 18 (by decide) h5, f.2.1 19 (by decide) h6]; exact h.2.1 k a b, by rw [f.2.2 38 g2]; exact h.2.2⟩
section MATCHM
variable {S : S2} {n z nl r by_ : Int} {s pl : Int → Int}
theorem placeM_of (N : Nat) (h : MPk S n s z) (h0 : 1 ≤ n) (hn : n ≤ 48) (hb : CvB n s) {k : Int} (h1 : 0 ≤ k) (h2 : k < pkC n s) : f_X11_placeOf N S k = some (qP n s k, S) := by
  have f1 := (pk_facts h0 hn hb).1
  have w := (pkW_ok h0 hn hb).range f1.1 k h1 h2
  have e1 := (h.2.1 k h1 h2).1
  have e2 := (h.1.2 _ w.1 w.2).1
  unfold f_X11_placeOf
  simp (disch := omega) only [e1, e2, gI, uI, cI_of, aI_of, sI_of, mnI_of, mxI_of, abI_of, dvI_of, rmI_of, bI_of, bV_of, rI, rV, rL, rP, rT, rZ_of, rC_of, if_pos, if_neg, if_true, if_false]
  rfl
theorem qP_in (h0 : 1 ≤ n) (hn : n ≤ 48) (hb : CvB n s) {k : Int} (h1 : 0 ≤ k) (h2 : k < pkC n s) : 0 ≤ qP n s k ∧ qP n s k < n := by
  have f := pk_facts h0 hn hb
  have w := (pkW_ok h0 hn hb).range f.1.1 k h1 h2
  exact (f.2.1 _ w.1 w.2).1
abbrev is20 : Nat → Prop := fun j => j = 20
theorem matchM_in {t : Int → Int} {k p : Int} (hB : LnB nl r pl) (h0n : 1 ≤ n) (hn : n ≤ 48) (hb : CvB n s) (hby : -9 ≤ by_ ∧ by_ ≤ 9) (hk0 : 0 ≤ k) (hk1 : k < pkC n s) (hp : p = qP n s k + by_) (hbt : ∀ i, -1 ≤ t i ∧ t i ≤ 48) : ∀ (d N : Nat) (l a : Int) (S : S2), 0 ≤ l → l + d = nl → d < N → (a = -1 ∨ (0 ≤ a ∧ a < l)) → k < pkK n s z → LnM S nl r pl → MPk S n s z → (∀ i, 0 ≤ i → i < 8 → S.1 21 i = t i) → S.1 20 k = a → ∃ S', (∀ K, f_X11_matches_45 K N by_ k l S = K by_ k S') ∧ S'.1 20 k = nrF pl t p r d l a ∧ (∀ j, j ≠ k → S'.1 20 j = S.1 20 j) ∧ FrM is20 noF S S' := by
  obtain ⟨⟨b1, b2⟩, b4, b3⟩ := id hB
  have bp := qP_in h0n hn hb hk0 hk1
  have pf := (pk_facts h0n hn hb).1
  intro d
  induction d with
  | zero =>
    intro N l a S h0 hi hN ha hkK hL hM ht h20
    obtain ⟨N, rfl⟩ : ∃ M, N = M + 1 := ⟨N - 1, by omega⟩
    have e0 := hL.1
    refine ⟨S, fun K => ?_, h20, fun j _ => rfl, FrM.refl⟩
    rw [f_X11_matches_45]
    simp (disch := omega) only [e0, gI, uI, cI_of, aI_of, sI_of, mnI_of, mxI_of, abI_of, dvI_of, rmI_of, bI_of, bV_of, rI, rV, rL, rP, rT, rZ_of, rC_of, if_pos, if_neg, if_true, if_false]
  | succ d ih =>
    intro N l a S h0 hi hN ha hkK hL hM ht h20
    obtain ⟨N, rfl⟩ : ∃ M, N = M + 1 := ⟨N - 1, by omega⟩
    have e0 := hL.1
    have er := hL.2.1
    have ek := hM.2.2
    have kk := pkK_in (z := z) h0n hn hb
    have e1 := ht l h0 (by omega)
    have q2 := hbt l
    have e2 := hL.2.2 l h0 (by omega)
    have q1 := b3 l h0 (by omega)
    have ep := placeM_of N hM h0n hn hb hk0 hk1
    have hva : a = -1 ∨ (0 ≤ a ∧ a < l + 1) := by omega
    have step : ∀ v, (v = -1 ∨ (0 ≤ v ∧ v < l + 1)) → v = (if (t l = -1 ∧ dst (pl l) p ≤ r) ∧ (a = -1 ∨ dst (pl l) p < dst (pl a) p) then l else a) → ∃ S', (∀ K, f_X11_matches_45 K N by_ k (l + 1) (pI S 20 k v) = K by_ k S') ∧ S'.1 20 k = nrF pl t p r (d + 1) l a ∧ (∀ j, j ≠ k → S'.1 20 j = S.1 20 j) ∧ FrM is20 noF S S' := fun v hv ev => by
      have fr : FrM is20 noF S (pI S 20 k v) := FrM.refl.wI rfl (by decide)
      obtain ⟨S', f1, f2, f3, f4⟩ := ih N (l + 1) v (pI S 20 k v) (by omega) (by omega) (by omega) hv hkK (hL.kept fr (by decide) (fun h => h) (fun h => h)) (hM.kept fr (by decide) (by decide) (by decide) (by decide) (by decide) (by decide) (fun h => h) (fun h => h)) (fun i x y => by rw [pI_cell (by decide)]; exact ht i x y) pI_eq
      refine ⟨S', f1, ?_, fun j hj => by rw [f3 j hj, pI_idx hj], fr.trans f4 (fun _ h => h) (fun _ h => h) (fun _ h => h) (fun _ h => h)⟩
      rw [f2, ev]; rfl
    have e183 : ∀ K y0, f_X11_matches_183 (f_X11_matches_45 K N) N by_ k l y0 k S = f_X11_matches_45 K N by_ k (l + 1) (pI S 20 k y0) := fun K y0 => by
      rw [f_X11_matches_183]
      simp (disch := omega) only [gI, uI, cI_of, aI_of, sI_of, mnI_of, mxI_of, abI_of, dvI_of, rmI_of, bI_of, bV_of, rI, rV, rL, rP, rT, rZ_of, rC_of, if_pos, if_neg, if_true, if_false]
    have e177 : ∀ K, f_X11_matches_177 (f_X11_matches_45 K N) N by_ k l k S = f_X11_matches_45 K N by_ k (l + 1) (pI S 20 k a) := fun K => by
      rw [f_X11_matches_177]
      simp (disch := omega) only [h20, e183, gI, uI, cI_of, aI_of, sI_of, mnI_of, mxI_of, abI_of, dvI_of, rmI_of, bI_of, bV_of, rI, rV, rL, rP, rT, rZ_of, rC_of, if_pos, if_neg, if_true, if_false]
    have ea : a = -1 ∨ (f_X11_apart N S (pl a) p = some (dst (pl a) p, S) ∧ 0 ≤ dst (pl a) p ∧ dst (pl a) p ≤ 200 ∧ S.1 10 a = pl a) := by
      rcases ha with q | q
      · exact Or.inl q
      · have ba := b3 a q.1 (by omega)
        refine Or.inr ⟨apart_of N (by omega) (by omega) (by omega) (by omega), by unfold dst; omega, by unfold dst; omega, hL.2.2 a q.1 (by omega)⟩
    have el : f_X11_apart N S (pl l) p = some (dst (pl l) p, S) := apart_of N (by omega) (by omega) (by omega) (by omega)
    have bl : 0 ≤ dst (pl l) p ∧ dst (pl l) p ≤ 200 := by unfold dst; omega
    -- is: 0 or 1
    have g99 : ∀ x, (x = 0 ∨ x = 1) → (x = 1 ↔ (t l = -1 ∧ dst (pl l) p ≤ r)) → ∃ S', (∀ K, f_X11_matches_99 (f_X11_matches_45 K N) N by_ k l x S = K by_ k S') ∧ S'.1 20 k = nrF pl t p r (d + 1) l a ∧ (∀ j, j ≠ k → S'.1 20 j = S.1 20 j) ∧ FrM is20 noF S S' := fun x hx hxi => by
      have near : (a = -1 ∨ dst (pl l) p < dst (pl a) p) → ∃ S', (∀ K, f_X11_matches_156 (f_X11_matches_45 K N) N by_ k l x 1 S = K by_ k S') ∧ S'.1 20 k = nrF pl t p r (d + 1) l a ∧ (∀ j, j ≠ k → S'.1 20 j = S.1 20 j) ∧ FrM is20 noF S S' := fun g => by
        by_cases g1 : x = 1
        · obtain ⟨S', f1, f2⟩ := step l (Or.inr ⟨h0, by omega⟩) (by rw [if_pos ⟨hxi.mp g1, g⟩])
          refine ⟨S', fun K => ?_, f2⟩
          rw [← f1 K, f_X11_matches_156]
          simp (disch := omega) only [e183, gI, uI, cI_of, aI_of, sI_of, mnI_of, mxI_of, abI_of, dvI_of, rmI_of, bI_of, bV_of, rI, rV, rL, rP, rT, rZ_of, rC_of, if_pos, if_neg, if_true, if_false]
        · obtain ⟨S', f1, f2⟩ := step a hva (by rw [if_neg (fun y => g1 (hxi.mpr y.1))])
          refine ⟨S', fun K => ?_, f2⟩
          rw [← f1 K, f_X11_matches_156]
          simp (disch := omega) only [e177, gI, uI, cI_of, aI_of, sI_of, mnI_of, mxI_of, abI_of, dvI_of, rmI_of, bI_of, bV_of, rI, rV, rL, rP, rT, rZ_of, rC_of, if_pos, if_neg, if_true, if_false]
      by_cases g : a = -1
      · obtain ⟨S', f1, f2⟩ := near (Or.inl g)
        refine ⟨S', fun K => ?_, f2⟩
        rw [← f1 K, f_X11_matches_99]
        simp (disch := omega) only [h20, f_X11_matches_151, gI, uI, cI_of, aI_of, sI_of, mnI_of, mxI_of, abI_of, dvI_of, rmI_of, bI_of, bV_of, rI, rV, rL, rP, rT, rZ_of, rC_of, if_pos, if_neg, if_true, if_false]
      · rcases ea with q | ⟨q, q4, q5, q3⟩
        · exact absurd q g
        · have hR : ∀ K, f_X11_matches_99 (f_X11_matches_45 K N) N by_ k l x S = if dst (pl a) p ≤ dst (pl l) p then f_X11_matches_156 (f_X11_matches_45 K N) N by_ k l x 0 S else f_X11_matches_156 (f_X11_matches_45 K N) N by_ k l x 1 S := fun K => by
            rw [f_X11_matches_99]
            simp (disch := omega) only [h20, ep, e2, gI, uI, cI_of, aI_of, sI_of, mnI_of, mxI_of, abI_of, dvI_of, rmI_of, bI_of, bV_of, rI, rV, rL, rP, rT, rZ_of, rC_of, if_pos, if_neg, if_true, if_false]
            rw [← hp, el]
            simp (disch := omega) only [h20, ep, gI, uI, cI_of, aI_of, sI_of, mnI_of, mxI_of, abI_of, dvI_of, rmI_of, bI_of, bV_of, rI, rV, rL, rP, rT, rZ_of, rC_of, if_pos, if_neg, if_true, if_false]
            rw [q3, ← hp, q]
            simp (disch := omega) only [f_X11_matches_151, gI, uI, cI_of, aI_of, sI_of, mnI_of, mxI_of, abI_of, dvI_of, rmI_of, bI_of, bV_of, rI, rV, rL, rP, rT, rZ_of, rC_of, if_pos, if_neg, if_true, if_false]
          have hR2 : dst (pl a) p ≤ dst (pl l) p → ∀ K, f_X11_matches_99 (f_X11_matches_45 K N) N by_ k l x S = f_X11_matches_156 (f_X11_matches_45 K N) N by_ k l x 0 S := fun y K => by rw [hR, if_pos y]
          by_cases x1 : dst (pl l) p < dst (pl a) p
          · have x2 : ¬ dst (pl a) p ≤ dst (pl l) p := by omega
            obtain ⟨S', f1, f2⟩ := near (Or.inr x1)
            refine ⟨S', fun K => ?_, f2⟩
            rw [← f1 K, hR, if_neg x2]
          · have x2 : dst (pl a) p ≤ dst (pl l) p := by omega
            have bx : x = 0 ∨ x = 1 := hx
            obtain ⟨S', f1, f2⟩ := step a hva (by rw [if_neg (fun y => y.2.elim g x1)])
            refine ⟨S', fun K => ?_, f2⟩
            clear near step hR
            rw [← f1 K, hR2 x2, f_X11_matches_156]
            by_cases g1 : x = 0
            · simp (disch := omega) only [e177, gI, uI, cI_of, aI_of, sI_of, mnI_of, mxI_of, abI_of, dvI_of, rmI_of, bI_of, bV_of, rI, rV, rL, rP, rT, rZ_of, rC_of, if_pos, if_neg, if_true, if_false]
            · simp (disch := omega) only [e177, gI, uI, cI_of, aI_of, sI_of, mnI_of, mxI_of, abI_of, dvI_of, rmI_of, bI_of, bV_of, rI, rV, rL, rP, rT, rZ_of, rC_of, if_pos, if_neg, if_true, if_false]
    by_cases g : t l = -1
    · by_cases g2 : dst (pl l) p ≤ r
      · obtain ⟨S', f1, f2⟩ := g99 1 (Or.inr rfl) ⟨fun _ => ⟨g, g2⟩, fun _ => rfl⟩
        refine ⟨S', fun K => ?_, f2⟩
        rw [← f1 K, f_X11_matches_45]
        simp (disch := omega) only [e0, ek, e1, e2, ep, gI, uI, cI_of, aI_of, sI_of, mnI_of, mxI_of, abI_of, dvI_of, rmI_of, bI_of, bV_of, rI, rV, rL, rP, rT, rZ_of, rC_of, if_pos, if_neg, if_true, if_false]
        rw [← hp, el]
        simp (disch := omega) only [er, gI, uI, cI_of, aI_of, sI_of, mnI_of, mxI_of, abI_of, dvI_of, rmI_of, bI_of, bV_of, rI, rV, rL, rP, rT, rZ_of, rC_of, if_pos, if_neg, if_true, if_false]
      · obtain ⟨S', f1, f2⟩ := g99 0 (Or.inl rfl) ⟨fun h => by omega, fun h => absurd h.2 g2⟩
        refine ⟨S', fun K => ?_, f2⟩
        rw [← f1 K, f_X11_matches_45]
        simp (disch := omega) only [e0, ek, e1, e2, ep, gI, uI, cI_of, aI_of, sI_of, mnI_of, mxI_of, abI_of, dvI_of, rmI_of, bI_of, bV_of, rI, rV, rL, rP, rT, rZ_of, rC_of, if_pos, if_neg, if_true, if_false]
        rw [← hp, el]
        simp (disch := omega) only [er, f_X11_matches_98, gI, uI, cI_of, aI_of, sI_of, mnI_of, mxI_of, abI_of, dvI_of, rmI_of, bI_of, bV_of, rI, rV, rL, rP, rT, rZ_of, rC_of, if_pos, if_neg, if_true, if_false]
    · obtain ⟨S', f1, f2⟩ := g99 0 (Or.inl rfl) ⟨fun h => by omega, fun h => absurd h.1 g⟩
      refine ⟨S', fun K => ?_, f2⟩
      rw [← f1 K, f_X11_matches_45]
      simp (disch := omega) only [e0, ek, e1, f_X11_matches_98, gI, uI, cI_of, aI_of, sI_of, mnI_of, mxI_of, abI_of, dvI_of, rmI_of, bI_of, bV_of, rI, rV, rL, rP, rT, rZ_of, rC_of, if_pos, if_neg, if_true, if_false]
abbrev is2021 : Nat → Prop := fun j => j = 20 ∨ j = 21
abbrev f41 : Int → Prop := fun k => k = 41
/-- what the reference's match tells -/
def MMt (S : S2) (n : Int) (s : Int → Int) (z nl : Int) (pl : Int → Int) (r by_ : Int) : Prop := (∀ i, 0 ≤ i → i < 8 → S.1 21 i = mtF n s z nl pl r by_ i) ∧ (∀ k, 0 ≤ k → k < pkC n s → S.1 20 k = lnQ n s z nl pl r by_ k) ∧ S.1 0 41 = cntT nl (mtF n s z nl pl r by_)
theorem matchM_loop (hB : LnB nl r pl) (h0n : 1 ≤ n) (hn : n ≤ 48) (hb : CvB n s) (hby : -9 ≤ by_ ∧ by_ ≤ 9) : ∀ (d N k : Nat) (S : S2), (k : Int) + d = pkC n s → d + 100 < N → LnM S nl r pl → MPk S n s z → (∀ i, 0 ≤ i → i < 8 → S.1 21 i = mtT nl pl r (qP n s) by_ (min k (pkK n s z).toNat) i) → S.1 0 41 = cntT nl (mtT nl pl r (qP n s) by_ (min k (pkK n s z).toNat)) → (∀ j : Int, 0 ≤ j → j < k → S.1 20 j = lnQ n s z nl pl r by_ j) → ∃ S', f_X11_matches_28 N by_ k S = some S' ∧ MMt S' n s z nl pl r by_ ∧ FrM is2021 f41 S S' := by
  obtain ⟨⟨b1, b2⟩, b4, b3⟩ := id hB
  have pf := (pk_facts h0n hn hb).1
  have kk := pkK_in (z := z) h0n hn hb
  intro d
  induction d with
  | zero =>
    intro N k S hk hN hL hM ht hc hl
    obtain ⟨N, rfl⟩ : ∃ M, N = M + 1 := ⟨N - 1, by omega⟩
    have e35 := hM.1.1
    rw [show min k (pkK n s z).toNat = (pkK n s z).toNat by omega] at ht hc
    refine ⟨S, ?_, ⟨ht, fun j a b => hl j a (by omega), hc⟩, FrM.refl⟩
    rw [f_X11_matches_28]
    simp (disch := omega) only [e35, gI, uI, cI_of, aI_of, sI_of, mnI_of, mxI_of, abI_of, dvI_of, rmI_of, bI_of, bV_of, rI, rV, rL, rP, rT, rZ_of, rC_of, if_pos, if_neg, if_true, if_false]
  | succ d ih =>
    intro N k S hk hN hL hM ht hc hl
    obtain ⟨N, rfl⟩ : ∃ M, N = M + 1 := ⟨N - 1, by omega⟩
    have e35 := hM.1.1
    have e0 := hL.1
    have ek := hM.2.2
    have kc : (k : Int) < pkC n s := by omega
    obtain ⟨t, htt⟩ : ∃ t, t = mtT nl pl r (qP n s) by_ (min k (pkK n s z).toNat) := ⟨_, rfl⟩
    rw [← htt] at ht hc
    have hI := mtT_I (nl := nl) (pl := pl) (r := r) (P := qP n s) (by_ := by_) (min k (pkK n s z).toNat)
    rw [← htt] at hI
    have ci := cntT_in (t := t) b1
    have fr1 : FrM is20 noF S (pI S 20 k (-1)) := FrM.refl.wI rfl (by decide)
    -- behind the lines: what peak k took stands in S1
    have fin : ∀ S1, FrM is20 noF S S1 → S1.1 20 k = lnQ n s z nl pl r by_ k → (∀ j : Int, j ≠ (k : Int) → S1.1 20 j = S.1 20 j) → ∃ S', f_X11_matches_190 (f_X11_matches_28 N) N by_ k S1 = some S' ∧ MMt S' n s z nl pl r by_ ∧ FrM is2021 f41 S S' := fun S1 fr e20 eo => by
      have hL1 := hL.kept fr (by decide) (fun h => h) (fun h => h)
      have hM1 := hM.kept fr (by decide) (by decide) (by decide) (by decide) (by decide) (by decide) (fun h => h) (fun h => h)
      have ht1 : ∀ i, 0 ≤ i → i < 8 → S1.1 21 i = t i := fun i x y => by rw [fr.2.1 21 (by decide) (by decide)]; exact ht i x y
      have hc1 : S1.1 0 41 = cntT nl t := by rw [fr.2.2 41 (fun h => h)]; exact hc
      have fr' : FrM is2021 f41 S S1 := fr.mono (fun _ h => Or.inl h) (fun _ h => h.elim)
      have lq : lnQ n s z nl pl r by_ k = if (k : Int) < pkK n s z then lnA nl pl r (qP n s k + by_) t else -1 := by
        show lnF nl pl r (qP n s) (pkK n s z) by_ k = _
        unfold lnF
        by_cases g : (k : Int) < pkK n s z
        · rw [if_pos g, if_pos g, htt, show min k (pkK n s z).toNat = ((k : Int)).toNat by omega]
        · rw [if_neg g, if_neg g]
      have lin := lnA_in (pl := pl) (t := t) (p := qP n s k + by_) (r := r) b1
      by_cases g : lnQ n s z nl pl r by_ k = -1
      · have same : mtT nl pl r (qP n s) by_ (min (k + 1) (pkK n s z).toNat) = t := by
          by_cases g2 : (k : Int) < pkK n s z
          · rw [lq, if_pos g2] at g
            rw [htt, show min (k + 1) (pkK n s z).toNat = k + 1 by omega, mtT_succ, show min k (pkK n s z).toNat = k by omega]
            rw [htt, show min k (pkK n s z).toNat = k by omega] at g
            unfold mtStep
            rw [if_pos g]
          · rw [htt, show min (k + 1) (pkK n s z).toNat = min k (pkK n s z).toNat by omega]
        obtain ⟨S', f1, f2, f3⟩ := ih N (k + 1) S1 (by omega) (by omega) hL1 hM1 (by rw [same]; exact ht1) (by rw [same]; exact hc1) (fun j x y => by
          by_cases e : j = k
          · rw [e]; exact e20
          · rw [eo j e]; exact hl j x (by omega))
        refine ⟨S', ?_, f2, fr'.trans f3 (fun _ h => h) (fun _ h => h) (fun _ h => h) (fun _ h => h)⟩
        rw [g] at e20
        rw [f_X11_matches_190]
        simp (disch := omega) only [e20, f_X11_matches_222, gI, uI, cI_of, aI_of, sI_of, mnI_of, mxI_of, abI_of, dvI_of, rmI_of, bI_of, bV_of, rI, rV, rL, rP, rT, rZ_of, rC_of, if_pos, if_neg, if_true, if_false]
        exact f1
      · have g2 : (k : Int) < pkK n s z := by
          by_cases g2 : (k : Int) < pkK n s z
          · exact g2
          · rw [lq, if_neg g2] at g; exact absurd rfl g
        obtain ⟨a, ha⟩ : ∃ a, a = lnQ n s z nl pl r by_ k := ⟨_, rfl⟩
        rw [← ha] at e20 g
        have la := ha
        rw [lq, if_pos g2] at la
        rw [← la] at lin
        have la2 : 0 ≤ a ∧ a < nl ∧ t a = -1 := lin.elim (fun q => absurd q g) id
        have next : mtT nl pl r (qP n s) by_ (min (k + 1) (pkK n s z).toNat) = upI t a k := by
          rw [show min (k + 1) (pkK n s z).toNat = k + 1 by omega, mtT_succ, show k = min k (pkK n s z).toNat by omega, ← htt, show ((min k (pkK n s z).toNat : Nat) : Int) = k by omega]
          unfold mtStep
          rw [← la, if_neg g]
        have cn : cntT nl (upI t a k) = cntT nl t + 1 := cnt_up la2.2.2 (by omega) nl.toNat 0 0 la2.1 (by omega)
        have fr2 : FrM is2021 f41 S1 (pI (pI S1 21 a k) 0 41 (cntT nl t + 1)) := (FrM.refl.wI (Or.inr rfl) (by decide)).wF rfl
        obtain ⟨S', f1, f2, f3⟩ := ih N (k + 1) (pI (pI S1 21 a k) 0 41 (cntT nl t + 1)) (by omega) (by omega) (hL1.kept fr2 (by decide) (by decide) (by decide)) (hM1.kept fr2 (by decide) (by decide) (by decide) (by decide) (by decide) (by decide) (by decide) (by decide)) (by
          rw [next]; intro i x y
          rw [pI_cell (by decide)]
          by_cases e : i = a
          · rw [e, pI_eq, upI_eq]
          · rw [pI_idx e, upI_ne e]; exact ht1 i x y) (by rw [next, pI_eq, cn]) (fun j x y => by
          rw [pI_cell (by decide), pI_cell (by decide)]
          by_cases e : j = k
          · rw [e, e20, ha]
          · rw [eo j e]; exact hl j x (by omega))
        refine ⟨S', ?_, f2, (fr'.trans fr2 (fun _ h => h) (fun _ h => h) (fun _ h => h) (fun _ h => h) (C := is2021) (K := f41)).trans f3 (fun _ h => h) (fun _ h => h) (fun _ h => h) (fun _ h => h)⟩
        have e41 : (pI S1 21 a k).1 0 41 = cntT nl t := by rw [pI_cell (by decide)]; exact hc1
        rw [f_X11_matches_190]
        simp (disch := omega) only [e20, e41, f_X11_matches_222, gI, uI, cI_of, aI_of, sI_of, mnI_of, mxI_of, abI_of, dvI_of, rmI_of, bI_of, bV_of, rI, rV, rL, rP, rT, rZ_of, rC_of, if_pos, if_neg, if_true, if_false]
        exact f1
    by_cases g : (k : Int) < pkK n s z
    · obtain ⟨S1, c1, c2, c3, c4⟩ := matchM_in (t := t) (z := z) (p := qP n s k + by_) hB h0n hn hb hby (by omega : (0 : Int) ≤ k) kc rfl (fun i => by have := hI i; omega) nl.toNat N 0 (-1) (pI S 20 k (-1)) (by omega) (by omega) (by omega) (Or.inl rfl) g (hL.kept fr1 (by decide) (fun h => h) (fun h => h)) (hM.kept fr1 (by decide) (by decide) (by decide) (by decide) (by decide) (by decide) (fun h => h) (fun h => h)) (fun i x y => by rw [pI_cell (by decide)]; exact ht i x y) pI_eq
      obtain ⟨S', f1, f2⟩ := fin S1 (fr1.trans c4 (fun _ h => h) (fun _ h => h) (fun _ h => h) (fun _ h => h)) (by
        rw [c2, nrF_lnA]
        show _ = lnF nl pl r (qP n s) (pkK n s z) by_ k
        unfold lnF
        rw [if_pos g, htt, show min k (pkK n s z).toNat = ((k : Int)).toNat by omega]) (fun j hj => by rw [c3 j hj, pI_idx hj])
      refine ⟨S', ?_, f2⟩
      rw [f_X11_matches_28]
      simp (disch := omega) only [e35, gI, uI, cI_of, aI_of, sI_of, mnI_of, mxI_of, abI_of, dvI_of, rmI_of, bI_of, bV_of, rI, rV, rL, rP, rT, rZ_of, rC_of, if_pos, if_neg, if_true, if_false]
      rw [c1]
      exact f1
    · obtain ⟨S', f1, f2⟩ := fin (pI S 20 k (-1)) fr1 (by
        rw [pI_eq]
        show _ = lnF nl pl r (qP n s) (pkK n s z) by_ k
        unfold lnF
        rw [if_neg g]) (fun j hj => by rw [pI_idx hj])
      refine ⟨S', ?_, f2⟩
      have e0' : (pI S 20 k (-1)).1 0 27 = nl := by rw [pI_cell (by decide)]; exact e0
      have ek' : (pI S 20 k (-1)).1 0 38 = pkK n s z := by rw [pI_cell (by decide)]; exact ek
      obtain ⟨N, rfl⟩ : ∃ M, N = M + 1 := ⟨N - 1, by omega⟩
      rw [f_X11_matches_28]
      simp (disch := omega) only [e35, e0', gI, uI, cI_of, aI_of, sI_of, mnI_of, mxI_of, abI_of, dvI_of, rmI_of, bI_of, bV_of, rI, rV, rL, rP, rT, rZ_of, rC_of, if_pos, if_neg, if_true, if_false]
      rw [f_X11_matches_45]
      by_cases g0 : nl ≤ 0
      · simp (disch := omega) only [e0', gI, uI, cI_of, aI_of, sI_of, mnI_of, mxI_of, abI_of, dvI_of, rmI_of, bI_of, bV_of, rI, rV, rL, rP, rT, rZ_of, rC_of, if_pos, if_neg, if_true, if_false]
        exact f1
      · simp (disch := omega) only [e0', ek', gI, uI, cI_of, aI_of, sI_of, mnI_of, mxI_of, abI_of, dvI_of, rmI_of, bI_of, bV_of, rI, rV, rL, rP, rT, rZ_of, rC_of, if_pos, if_neg, if_true, if_false]
        exact f1
theorem matchM_init : ∀ (d N : Nat) (i : Int) (S : S2), 0 ≤ i → i + d = 8 → d < N → (∀ j, 0 ≤ j → j < i → S.1 21 j = -1) → ∃ S', (∀ K, f_X11_matches_7 K N by_ i S = K by_ S') ∧ (∀ j, 0 ≤ j → j < 8 → S'.1 21 j = -1) ∧ FrM is2021 noF S S' := by
  intro d
  induction d with
  | zero =>
    intro N i S h0 hi hN h
    obtain ⟨N, rfl⟩ : ∃ M, N = M + 1 := ⟨N - 1, by omega⟩
    refine ⟨S, fun K => ?_, fun j a b => h j a (by omega), FrM.refl⟩
    rw [f_X11_matches_7]
    simp (disch := omega) only [gI, uI, cI_of, aI_of, sI_of, mnI_of, mxI_of, abI_of, dvI_of, rmI_of, bI_of, bV_of, rI, rV, rL, rP, rT, rZ_of, rC_of, if_pos, if_neg, if_true, if_false]
  | succ d ih =>
    intro N i S h0 hi hN h
    obtain ⟨N, rfl⟩ : ∃ M, N = M + 1 := ⟨N - 1, by omega⟩
    have fr : FrM is2021 noF S (pI S 21 i (-1)) := FrM.refl.wI (Or.inr rfl) (by decide)
    obtain ⟨S', f1, f2, f3⟩ := ih N (i + 1) (pI S 21 i (-1)) (by omega) (by omega) (by omega) (fun j a b => by
      by_cases e : j = i
      · rw [e, pI_eq]
      · rw [pI_idx e]; exact h j a (by omega))
    refine ⟨S', fun K => ?_, f2, fr.trans f3 (fun _ h => h) (fun _ h => h) (fun _ h => h) (fun _ h => h)⟩
    rw [f_X11_matches_7]
    simp (disch := omega) only [gI, uI, cI_of, aI_of, sI_of, mnI_of, mxI_of, abI_of, dvI_of, rmI_of, bI_of, bV_of, rI, rV, rL, rP, rT, rZ_of, rC_of, if_pos, if_neg, if_true, if_false]
    exact f1 K
theorem cntT_0 {nl : Int} : cntT nl (fun _ => -1) = 0 := by
  unfold cntT
  have : ∀ (d : Nat) (i a : Int), cntF (fun _ : Int => (-1 : Int) ≠ -1) d i a = a := by
    intro d
    induction d with
    | zero => intro i a; rfl
    | succ d ih => intro i a; show cntF (fun _ : Int => (-1 : Int) ≠ -1) d (i + 1) (if (-1 : Int) ≠ -1 then a + 1 else a) = a; rw [if_neg (by decide)]; exact ih (i + 1) a
  exact this _ _ _
theorem matchM_of (N : Nat) (hB : LnB nl r pl) (h0n : 1 ≤ n) (hn : n ≤ 48) (hb : CvB n s) (hby : -9 ≤ by_ ∧ by_ ≤ 9) (hL : LnM S nl r pl) (hM : MPk S n s z) (hN : 400 ≤ N) : ∃ S', f_X11_matches N S by_ = some S' ∧ MMt S' n s z nl pl r by_ ∧ FrM is2021 f41 S S' := by
  have pf := (pk_facts h0n hn hb).1
  have fr0 : FrM is2021 f41 S (pI S 0 41 0) := FrM.refl.wF rfl
  obtain ⟨S1, a1, a2, a3⟩ := matchM_init (by_ := by_) 8 N 0 (pI S 0 41 0) (by omega) (by omega) (by omega) (fun j a b => by omega)
  have fr1 : FrM is2021 f41 S S1 := fr0.trans a3 (fun _ h => h) (fun _ h => h) (fun _ h => h) (fun _ h => h.elim)
  obtain ⟨S', f1, f2, f3⟩ := matchM_loop (z := z) (by_ := by_) hB h0n hn hb hby (pkC n s).toNat N 0 S1 (by omega) (by omega) (hL.kept fr1 (by decide) (by decide) (by decide)) (hM.kept fr1 (by decide) (by decide) (by decide) (by decide) (by decide) (by decide) (by decide) (by decide)) (fun i x y => by rw [a2 i x y, Nat.zero_min]; rfl) (by rw [a3.2.2 41 (fun h => h), pI_eq, Nat.zero_min]; exact cntT_0.symm) (fun j a b => by omega)
  refine ⟨S', ?_, f2, fr1.trans f3 (fun _ h => h) (fun _ h => h) (fun _ h => h) (fun _ h => h)⟩
  unfold f_X11_matches
  simp (disch := omega) only [gI, uI, cI_of, aI_of, sI_of, mnI_of, mxI_of, abI_of, dvI_of, rmI_of, bI_of, bV_of, rI, rV, rL, rP, rT, rZ_of, rC_of, if_pos, if_neg, if_true, if_false]
  rw [a1, f_X11_matches_26]
  exact f1
abbrev findsA : Nat → Prop := fun j => 13 ≤ j ∧ j ≤ 21
abbrev findsF : Int → Prop := fun k => k = 35 ∨ k = 38 ∨ k = 41
theorem findsM_of (N : Nat) (hc : CvM S 8 n s z) (hb : CvB n s) (h0 : 1 ≤ n) (hn : n ≤ 48) (hz : 0 ≤ z) (hz2 : z ≤ 999) (hB : LnB nl r pl) (hL : LnM S nl r pl) (hN : 500 ≤ N) : ∃ S', f_X11_finds N S = some S' ∧ MPk S' n s z ∧ MMt S' n s z nl pl r 0 ∧ FrM findsA findsF S S' := by
  have pf := (pk_facts h0 hn hb).1
  obtain ⟨S1, a1, a2, a3⟩ := letsM_of N hc hb h0 hn (by omega)
  have hc1 := hc.keptM a3 (by decide) (by decide)
  have fr1 : FrM findsA findsF S S1 := a3.mono (fun j h => by have h : 13 ≤ j ∧ j ≤ 17 := h; show 13 ≤ j ∧ j ≤ 21; omega) (fun _ h => Or.inl h)
  -- the first one
  have e35 := a2.1
  have fr12 : FrM is18 noF S1 (pI S1 18 0 0) := FrM.refl.wI rfl (by decide)
  obtain ⟨S2, w, b1, b2, b3, b4, b5⟩ := whichOut (z := z) h0 hn hb ((pkC n s).toNat - 1) (N - 1) 1 (pI S1 18 0 0) (fun _ => 0) (by omega) (by omega) (by omega) (a2.kept fr12 (by decide) (by decide) (by decide) (by decide) (fun h => h)) (hc1.keptM fr12 (by decide) (by decide)) ⟨fun i a b => by omega, fun i j a b c => by omega, fun q a b => by omega⟩ (fun j a b => by omega) pI_eq
  have fr2 : FrM is18 noF S1 S2 := fr12.trans b5 (fun _ h => h) (fun _ h => h) (fun _ h => h) (fun _ h => h)
  have hp2 := a2.kept fr2 (by decide) (by decide) (by decide) (by decide) (fun h => h)
  have hc2 := hc1.keptM fr2 (by decide) (by decide)
  have weq : ∀ k, 0 ≤ k → k < pkC n s → S2.1 18 k = pkW n s k := fun k x y => by
    obtain ⟨w0, w1⟩ := pkW_ok h0 hn hb
    by_cases e : k = 0
    · rw [e, b4, w0]
    · rw [b3 k (by omega) y]; exact Srt.uniq ahd_asym b2 w1 (k.toNat + 1) k (by omega) (by omega) y
  have fr23 : FrM is19 f38 S2 (pI S2 0 38 0) := FrM.refl.wF rfl
  obtain ⟨S3, c1, c2, c3, c4⟩ := keptM_loop h0 hn hb hz hz2 (pkC n s).toNat N 0 (pI S2 0 38 0) (by omega) (by omega) (by omega) (hp2.kept fr23 (by decide) (by decide) (by decide) (by decide) (by decide)) (hc2.keptM fr23 (by decide) (by decide)) (fun k x y => by rw [pI_cell (by decide)]; exact weq k x y) (fun k x y => by omega) (by rw [pI_eq]; have := pkK_in (z := z) h0 hn hb; omega)
  have fr3 : FrM is19 f38 S2 S3 := fr23.trans c4 (fun _ h => h) (fun _ h => h) (fun _ h => h) (fun _ h => h)
  have hM3 : MPk S3 n s z := ⟨hp2.kept fr3 (by decide) (by decide) (by decide) (by decide) (by decide), fun k x y => ⟨by rw [fr3.2.1 18 (by decide) (by decide)]; exact weq k x y, c2 k x y⟩, c3⟩
  have frA : FrM findsA findsF S S3 := (fr1.trans fr2 (fun _ h => h) (fun j h => by have h : j = 18 := h; show 13 ≤ j ∧ j ≤ 21; omega) (fun _ h => h) (fun _ h => h.elim) (C := findsA) (K := findsF)).trans fr3 (fun _ h => h) (fun j h => by have h : j = 19 := h; show 13 ≤ j ∧ j ≤ 21; omega) (fun _ h => h) (fun _ h => Or.inr (Or.inl h))
  obtain ⟨S4, d1, d2, d3⟩ := matchM_of (by_ := 0) N hB h0 hn hb (by omega) (hL.kept frA (by decide) (by decide) (by decide)) hM3 (by omega)
  refine ⟨S4, ?_, hM3.kept d3 (by decide) (by decide) (by decide) (by decide) (by decide) (by decide) (by decide) (by decide), d2, frA.trans d3 (fun _ h => h) (fun j h => by have h : j = 20 ∨ j = 21 := h; show 13 ≤ j ∧ j ≤ 21; omega) (fun _ h => h) (fun _ h => Or.inr (Or.inr h))⟩
  unfold f_X11_finds
  rw [a1, bV_of]
  obtain ⟨N, rfl⟩ : ∃ M, N = M + 1 := ⟨N - 1, by omega⟩
  obtain ⟨N, rfl⟩ : ∃ M, N = M + 1 := ⟨N - 1, by omega⟩
  rw [f_X11_finds_6, f_X11_finds_16]
  simp (disch := omega) only [e35, f_X11_finds_103, gI, uI, cI_of, aI_of, sI_of, mnI_of, mxI_of, abI_of, dvI_of, rmI_of, bI_of, bV_of, rI, rV, rL, rP, rT, rZ_of, rC_of, if_pos, if_neg, if_true, if_false]
  have b1 := b1 (f_X11_finds_116 (N + 1 + 1))
  rw [show N + 1 + 1 - 1 = N + 1 by omega] at b1
  show f_X11_finds_6 (f_X11_finds_116 (N + 1 + 1)) (N + 1) 1 (pI S1 18 0 0) = some S4
  rw [b1, f_X11_finds_116]
  simp (disch := omega) only [gI, uI, cI_of, aI_of, sI_of, mnI_of, mxI_of, abI_of, dvI_of, rmI_of, bI_of, bV_of, rI, rV, rL, rP, rT, rZ_of, rC_of, if_pos, if_neg, if_true, if_false]
  rw [c1, f_X11_finds_187, d1]
  rfl
end MATCHM
