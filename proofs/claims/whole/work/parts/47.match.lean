/-! lines are matched -/
def dst (a b : Int) : Int := max (a - b) (b - a)
noncomputable def qP (n : Int) (s : Int → Int) : Int → Int := fun k => pkP n s (pkW n s k)
/-- the nearest free line -/
def nfF (pl t : Int → Int) (p : Int) (d : Nat) (i a : Int) : Int := fld (fun a i => if t i = -1 ∧ (a = -1 ∨ dst (pl i) p < dst (pl a) p) then i else a) d i a
theorem nfF_in {pl t : Int → Int} {p : Int} : ∀ (d : Nat) (i a : Int), 0 ≤ i → (a = -1 ∨ (0 ≤ a ∧ a < i ∧ t a = -1)) → (nfF pl t p d i a = -1 ∨ (0 ≤ nfF pl t p d i a ∧ nfF pl t p d i a < i + d ∧ t (nfF pl t p d i a) = -1)) := by
  intro d
  induction d with
  | zero => intro i a h0 h; rcases h with h | h; exact Or.inl h; exact Or.inr ⟨h.1, by show a < i + 0; omega, h.2.2⟩
  | succ d ih =>
    intro i a h0 h
    have e : nfF pl t p (d + 1) i a = nfF pl t p d (i + 1) (if t i = -1 ∧ (a = -1 ∨ dst (pl i) p < dst (pl a) p) then i else a) := rfl
    rw [e, show i + ((d + 1 : Nat) : Int) = i + 1 + d by omega]
    by_cases g : t i = -1 ∧ (a = -1 ∨ dst (pl i) p < dst (pl a) p)
    · rw [if_pos g]; exact ih (i + 1) i (by omega) (Or.inr ⟨h0, by omega, g.1⟩)
    · rw [if_neg g]; exact ih (i + 1) a (by omega) (h.imp id (fun h => ⟨h.1, by omega, h.2.2⟩))
theorem nfF_none {pl t : Int → Int} {p : Int} : ∀ (d : Nat) (i a : Int), (∀ j, i ≤ j → j < i + d → t j ≠ -1) → nfF pl t p d i a = a := by
  intro d
  induction d with
  | zero => intro i a h; rfl
  | succ d ih =>
    intro i a h
    show nfF pl t p d (i + 1) (if t i = -1 ∧ (a = -1 ∨ dst (pl i) p < dst (pl a) p) then i else a) = a
    rw [if_neg (fun g => h i (by omega) (by omega) g.1)]
    exact ih (i + 1) a (fun j x y => h j (by omega) (by omega))
/-- the nearest free line within reach -/
def nrF (pl t : Int → Int) (p r : Int) (d : Nat) (i a : Int) : Int := fld (fun a i => if (t i = -1 ∧ dst (pl i) p ≤ r) ∧ (a = -1 ∨ dst (pl i) p < dst (pl a) p) then i else a) d i a
def lnA (nl : Int) (pl : Int → Int) (r p : Int) (t : Int → Int) : Int := if nfF pl t p nl.toNat 0 (-1) ≠ -1 ∧ dst (pl (nfF pl t p nl.toNat 0 (-1))) p ≤ r then nfF pl t p nl.toNat 0 (-1) else -1
theorem nrF_eq {pl t : Int → Int} {p r : Int} : ∀ (d : Nat) (i a b : Int), 0 ≤ i → (a = -1 ∨ 0 ≤ a) → b = (if a ≠ -1 ∧ dst (pl a) p ≤ r then a else -1) → nrF pl t p r d i b = (if nfF pl t p d i a ≠ -1 ∧ dst (pl (nfF pl t p d i a)) p ≤ r then nfF pl t p d i a else -1) := by
  intro d
  induction d with
  | zero => intro i a b h0 ha h; exact h
  | succ d ih =>
    intro i a b h0 ha h
    have e : nfF pl t p (d + 1) i a = nfF pl t p d (i + 1) (if t i = -1 ∧ (a = -1 ∨ dst (pl i) p < dst (pl a) p) then i else a) := rfl
    have e2 : nrF pl t p r (d + 1) i b = nrF pl t p r d (i + 1) (if (t i = -1 ∧ dst (pl i) p ≤ r) ∧ (b = -1 ∨ dst (pl i) p < dst (pl b) p) then i else b) := rfl
    rw [e, e2]
    have key : ∀ a' b', a' = (if t i = -1 ∧ (a = -1 ∨ dst (pl i) p < dst (pl a) p) then i else a) → b' = (if (t i = -1 ∧ dst (pl i) p ≤ r) ∧ (b = -1 ∨ dst (pl i) p < dst (pl b) p) then i else b) → (a' = -1 ∨ 0 ≤ a') ∧ b' = (if a' ≠ -1 ∧ dst (pl a') p ≤ r then a' else -1) := fun a' b' ea eb => by
      by_cases g : t i = -1
      · by_cases k : a = -1 ∨ dst (pl i) p < dst (pl a) p
        · rw [if_pos ⟨g, k⟩] at ea
          subst ea
          refine ⟨Or.inr h0, ?_⟩
          by_cases x : dst (pl a') p ≤ r
          · rw [if_pos ⟨by omega, x⟩, eb]
            by_cases y : a ≠ -1 ∧ dst (pl a) p ≤ r
            · rw [if_pos y] at h
              rw [if_pos]
              refine ⟨⟨g, x⟩, ?_⟩
              rw [h]; exact k
            · rw [if_neg y] at h
              rw [if_pos ⟨⟨g, x⟩, Or.inl h⟩]
          · rw [if_neg (fun y => x y.2), eb, if_neg (fun y => x y.1.2), h]
            by_cases y : a ≠ -1 ∧ dst (pl a) p ≤ r
            · exfalso; rcases k with k | k <;> omega
            · rw [if_neg y]
        · rw [if_neg (fun y => k y.2)] at ea
          subst ea
          refine ⟨ha, ?_⟩
          rw [eb, if_neg, h]
          intro y
          by_cases z : a' ≠ -1 ∧ dst (pl a') p ≤ r
          · rw [if_pos z] at h; rw [h] at y; exact k y.2
          · omega
      · rw [if_neg (fun y => g y.1)] at ea
        rw [if_neg (fun y => g y.1.1)] at eb
        subst ea
        rw [eb]
        exact ⟨ha, h⟩
    obtain ⟨k1, k2⟩ := key _ _ rfl rfl
    exact ih (i + 1) _ _ (by omega) k1 k2
theorem nrF_lnA {nl : Int} {pl t : Int → Int} {p r : Int} : nrF pl t p r nl.toNat 0 (-1) = lnA nl pl r p t :=
  nrF_eq nl.toNat 0 (-1) (-1) (by omega) (Or.inl rfl) (by rw [if_neg (fun y => y.1 rfl)])
theorem lnA_in {nl : Int} {pl t : Int → Int} {p r : Int} (h0 : 0 ≤ nl) : lnA nl pl r p t = -1 ∨ (0 ≤ lnA nl pl r p t ∧ lnA nl pl r p t < nl ∧ t (lnA nl pl r p t) = -1) := by
  have h := nfF_in (pl := pl) (t := t) (p := p) nl.toNat 0 (-1) (by omega) (Or.inl rfl)
  rw [show (0 : Int) + nl.toNat = nl by omega] at h
  unfold lnA
  by_cases g : nfF pl t p nl.toNat 0 (-1) ≠ -1 ∧ dst (pl (nfF pl t p nl.toNat 0 (-1))) p ≤ r
  · rw [if_pos g]; exact h
  · rw [if_neg g]; exact Or.inl rfl
/-- peak k takes a line -/
def mtStep (nl : Int) (pl : Int → Int) (r : Int) (P : Int → Int) (by_ : Int) (t : Int → Int) (k : Int) : Int → Int := if lnA nl pl r (P k + by_) t = -1 then t else upI t (lnA nl pl r (P k + by_) t) k
def mtT (nl : Int) (pl : Int → Int) (r : Int) (P : Int → Int) (by_ : Int) (k : Nat) : Int → Int := fld (mtStep nl pl r P by_) k 0 (fun _ => -1)
theorem mtT_succ {nl : Int} {pl : Int → Int} {r : Int} {P : Int → Int} {by_ : Int} (k : Nat) : mtT nl pl r P by_ (k + 1) = mtStep nl pl r P by_ (mtT nl pl r P by_ k) k := by
  unfold mtT
  rw [fld_last, show (0 : Int) + k = k by omega]
def lnF (nl : Int) (pl : Int → Int) (r : Int) (P : Int → Int) (K by_ k : Int) : Int := if k < K then lnA nl pl r (P k + by_) (mtT nl pl r P by_ k.toNat) else -1
def cntT (nl : Int) (t : Int → Int) : Int := cntF (fun i => t i ≠ -1) nl.toNat 0 0
theorem cntF_ge {p : Int → Prop} [DecidablePred p] : ∀ (d : Nat) (i a : Int), a ≤ cntF p d i a ∧ cntF p d i a ≤ a + d
  | 0, i, a => ⟨Int.le_refl a, by show a ≤ a + 0; omega⟩
  | d + 1, i, a => by
    show a ≤ cntF p d (i + 1) (if p i then a + 1 else a) ∧ cntF p d (i + 1) (if p i then a + 1 else a) ≤ a + ((d + 1 : Nat) : Int)
    by_cases g : p i
    · rw [if_pos g]; have := cntF_ge (p := p) d (i + 1) (a + 1); omega
    · rw [if_neg g]; have := cntF_ge (p := p) d (i + 1) a; omega
theorem cntF_full {p : Int → Prop} [DecidablePred p] : ∀ (d : Nat) (i a : Int), cntF p d i a = a + d → ∀ j, i ≤ j → j < i + d → p j
  | 0, i, a, _, j, h1, h2 => by omega
  | d + 1, i, a, h, j, h1, h2 => by
    have e : cntF p (d + 1) i a = cntF p d (i + 1) (if p i then a + 1 else a) := rfl
    rw [e] at h
    by_cases g : p i
    · rw [if_pos g] at h
      by_cases k : j = i
      · rw [k]; exact g
      · exact cntF_full d (i + 1) (a + 1) (by omega) j (by omega) (by omega)
    · rw [if_neg g] at h; have := (cntF_ge (p := p) d (i + 1) a).2; omega
theorem cntF_shift {p : Int → Prop} [DecidablePred p] : ∀ (d : Nat) (i a : Int), cntF p d i (a + 1) = cntF p d i a + 1
  | 0, i, a => rfl
  | d + 1, i, a => by
    show cntF p d (i + 1) (if p i then a + 1 + 1 else a + 1) = cntF p d (i + 1) (if p i then a + 1 else a) + 1
    by_cases g : p i
    · rw [if_pos g, if_pos g]; exact cntF_shift d (i + 1) (a + 1)
    · rw [if_neg g, if_neg g]; exact cntF_shift d (i + 1) a
theorem cnt_up {t : Int → Int} {k v : Int} (hk : t k = -1) (hv : v ≠ -1) : ∀ (d : Nat) (i a : Int), i ≤ k → k < i + d → cntF (fun i => upI t k v i ≠ -1) d i a = cntF (fun i => t i ≠ -1) d i a + 1
  | 0, i, a, h1, h2 => by omega
  | d + 1, i, a, h1, h2 => by
    show cntF (fun i => upI t k v i ≠ -1) d (i + 1) (if upI t k v i ≠ -1 then a + 1 else a) = cntF (fun i => t i ≠ -1) d (i + 1) (if t i ≠ -1 then a + 1 else a) + 1
    by_cases e : i = k
    · subst e
      rw [upI_eq, if_pos hv, if_neg (fun x => x hk), cntF_shift, cntF_congr (p := fun j => upI t i v j ≠ -1) (q := fun j => t j ≠ -1) d (i + 1) a (fun j x y => by rw [upI_ne (by omega)])]
    · rw [upI_ne e]; exact cnt_up hk hv d (i + 1) _ (by omega) (by omega)
theorem cntT_in {nl : Int} {t : Int → Int} (h0 : 0 ≤ nl) : 0 ≤ cntT nl t ∧ cntT nl t ≤ nl := by
  have := cntF_ge (p := fun i => t i ≠ -1) nl.toNat 0 0; unfold cntT; omega
theorem cntT_step {nl : Int} {pl : Int → Int} {r : Int} {P : Int → Int} {by_ : Int} {t : Int → Int} {k : Int} (h0 : 0 ≤ nl) (hk : k ≠ -1) : cntT nl (mtStep nl pl r P by_ t k) = cntT nl t + (if lnA nl pl r (P k + by_) t = -1 then 0 else 1) := by
  unfold mtStep
  by_cases g : lnA nl pl r (P k + by_) t = -1
  · rw [if_pos g, if_pos g]; omega
  · rw [if_neg g, if_neg g]
    rcases lnA_in (pl := pl) (t := t) (p := P k + by_) (r := r) h0 with h | h
    · exact absurd h g
    · exact cnt_up h.2.2 hk nl.toNat 0 0 h.1 (by omega)
theorem mt_stuck {nl : Int} {pl : Int → Int} {r : Int} {P : Int → Int} {by_ : Int} {t : Int → Int} (h0 : 0 ≤ nl) (h : cntT nl t = nl) : ∀ (d : Nat) (k : Int), fld (mtStep nl pl r P by_) d k t = t
  | 0, k => rfl
  | d + 1, k => by
    have full := cntF_full (p := fun i => t i ≠ -1) nl.toNat 0 0 (by have : cntF (fun i => t i ≠ -1) nl.toNat 0 0 = nl := h; omega)
    have e : mtStep nl pl r P by_ t k = t := by
      unfold mtStep lnA
      rw [nfF_none nl.toNat 0 (-1) full, if_neg (c := (-1 : Int) ≠ -1 ∧ _) (fun x => x.1 rfl), if_pos rfl]
    rw [fld, e]; exact mt_stuck h0 h d (k + 1)
/-- what is in t behind k peaks -/
def mtI (t : Int → Int) (k : Int) : Prop := ∀ i, t i = -1 ∨ (0 ≤ t i ∧ t i < k)
theorem mtI_step {nl : Int} {pl : Int → Int} {r : Int} {P : Int → Int} {by_ : Int} {t : Int → Int} {k : Int} (h : mtI t k) (h0 : 0 ≤ k) : mtI (mtStep nl pl r P by_ t k) (k + 1) := fun i => by
  unfold mtStep
  by_cases g : lnA nl pl r (P k + by_) t = -1
  · rw [if_pos g]; have := h i; omega
  · rw [if_neg g]
    by_cases e : i = lnA nl pl r (P k + by_) t
    · rw [e, upI_eq]; omega
    · rw [upI_ne e]; have := h i; omega
theorem mtT_I {nl : Int} {pl : Int → Int} {r : Int} {P : Int → Int} {by_ : Int} : ∀ k : Nat, mtI (mtT nl pl r P by_ k) k
  | 0 => fun i => Or.inl rfl
  | k + 1 => by rw [mtT_succ]; exact mtI_step (mtT_I k) (by omega)
theorem fld_add {β : Type} {g : β → Int → β} : ∀ (d e : Nat) (i : Int) (a : β), fld g (d + e) i a = fld g e (i + d) (fld g d i a)
  | 0, e, i, a => by rw [show 0 + e = e by omega, show i + ((0 : Nat) : Int) = i by omega]; rfl
  | d + 1, e, i, a => by
    rw [show d + 1 + e = (d + e) + 1 by omega, fld, fld_add d e (i + 1) (g a i), fld, show i + 1 + (d : Int) = i + ((d + 1 : Nat) : Int) by omega]
theorem mt_keep {nl : Int} {pl : Int → Int} {r : Int} {P : Int → Int} {by_ k : Int} (h0 : 0 ≤ nl) (hk : 0 ≤ k) : ∀ (d : Nat) (j : Int) (t : Int → Int), k < j → ∀ i, fld (mtStep nl pl r P by_) d j t i = k ↔ t i = k
  | 0, j, t, hj, i => Iff.rfl
  | d + 1, j, t, hj, i => by
    rw [fld, mt_keep h0 hk d (j + 1) _ (by omega) i]
    unfold mtStep
    by_cases g : lnA nl pl r (P j + by_) t = -1
    · rw [if_pos g]
    · rw [if_neg g]
      rcases lnA_in (pl := pl) (t := t) (p := P j + by_) (r := r) h0 with h | h
      · exact absurd h g
      · by_cases e : i = lnA nl pl r (P j + by_) t
        · rw [e, upI_eq, h.2.2]; omega
        · rw [upI_ne e]
/-- the first of d lines from i on with the taker k -/
def tkF (t : Int → Int) (k : Int) : Nat → Int → Int
  | 0, _ => -1
  | d + 1, i => if t i = k then i else tkF t k d (i + 1)
theorem tkF_eq {t : Int → Int} {k a : Int} (h : ∀ i, t i = k ↔ (a ≠ -1 ∧ i = a)) : ∀ (d : Nat) (i : Int), (a = -1 ∨ (i ≤ a ∧ a < i + d)) → tkF t k d i = a
  | 0, i, ha => by rcases ha with q | q; exact q.symm; omega
  | d + 1, i, ha => by
    rw [tkF]
    by_cases g : t i = k
    · rw [if_pos g]; exact ((h i).mp g).2
    · rw [if_neg g]
      refine tkF_eq h d (i + 1) ?_
      rcases ha with q | q
      · exact Or.inl q
      · by_cases e : a = -1
        · exact Or.inl e
        · have : i ≠ a := fun z => g ((h i).mpr ⟨e, z⟩)
          exact Or.inr ⟨by omega, by omega⟩
theorem mtT_taker {nl : Int} {pl : Int → Int} {r : Int} {P : Int → Int} {by_ k : Int} {K : Nat} (h0 : 0 ≤ nl) (h1 : 0 ≤ k) (h2 : k < K) : ∀ i, mtT nl pl r P by_ K i = k ↔ (lnF nl pl r P K by_ k ≠ -1 ∧ i = lnF nl pl r P K by_ k) := fun i => by
  have e : mtT nl pl r P by_ K = fld (mtStep nl pl r P by_) (K - (k.toNat + 1)) (k + 1) (mtT nl pl r P by_ (k.toNat + 1)) := by
    have := fld_add (g := mtStep nl pl r P by_) (k.toNat + 1) (K - (k.toNat + 1)) 0 (fun _ => -1)
    rw [show k.toNat + 1 + (K - (k.toNat + 1)) = K by omega, show (0 : Int) + ((k.toNat + 1 : Nat) : Int) = k + 1 by omega] at this
    exact this
  rw [e, mt_keep h0 h1 _ _ _ (by omega) i, mtT_succ, show ((k.toNat : Nat) : Int) = k by omega]
  unfold mtStep lnF
  rw [if_pos h2]
  have hI := mtT_I (nl := nl) (pl := pl) (r := r) (P := P) (by_ := by_) k.toNat i
  by_cases g : lnA nl pl r (P k + by_) (mtT nl pl r P by_ k.toNat) = -1
  · rw [if_pos g]; exact ⟨fun z => by omega, fun z => absurd g z.1⟩
  · rw [if_neg g]
    by_cases e : i = lnA nl pl r (P k + by_) (mtT nl pl r P by_ k.toNat)
    · rw [e, upI_eq]; exact ⟨fun _ => ⟨g, rfl⟩, fun _ => rfl⟩
    · rw [upI_ne e]; exact ⟨fun z => by omega, fun z => absurd z.2 e⟩
theorem mtT_tk {nl : Int} {pl : Int → Int} {r : Int} {P : Int → Int} {by_ k : Int} {K : Nat} (h0 : 0 ≤ nl) (h1 : 0 ≤ k) (h2 : k < K) : tkF (mtT nl pl r P by_ K) k nl.toNat 0 = lnF nl pl r P K by_ k := by
  refine tkF_eq (mtT_taker h0 h1 h2) nl.toNat 0 ?_
  unfold lnF
  rw [if_pos h2]
  rcases lnA_in (pl := pl) (t := mtT nl pl r P by_ k.toNat) (p := P k + by_) (r := r) h0 with h | h
  · exact Or.inl h
  · exact Or.inr ⟨h.1, by omega⟩
/-- lines: nl of them at places pl, reach r -/
def LnB (nl r : Int) (pl : Int → Int) : Prop := (0 ≤ nl ∧ nl ≤ 8) ∧ (0 ≤ r ∧ r ≤ 9) ∧ ∀ i, 0 ≤ i → i < nl → 0 ≤ pl i ∧ pl i ≤ 47
def LnC (S : S2) (nl r : Int) (pl : Int → Int) : Prop := S.1 20 0 = nl ∧ S.1 20 1 = r ∧ ∀ i, 0 ≤ i → i < nl → S.1 21 i = pl i
theorem LnC.kept {A : Nat → Prop} {S S' : S2} {nl r : Int} {pl : Int → Int} (h : LnC S nl r pl) (f : Fr A S S') (h1 : ¬ A 20) (h2 : ¬ A 21) : LnC S' nl r pl := ⟨by rw [f.2 _ h1]; exact h.1, by rw [f.2 _ h1]; exact h.2.1, fun i a b => by rw [f.2 _ h2]; exact h.2.2 i a b⟩
abbrev is23 : Nat → Prop := fun j => j = 23
section MATCHC
variable {S : S2} {n z nl r by_ : Int} {s pl : Int → Int}
theorem nearC_loop {t : Int → Int} {p : Int} (hB : LnB nl r pl) (hp : -100 ≤ p ∧ p ≤ 100) (hL : LnC S nl r pl) (ht : ∀ i, 0 ≤ i → i < nl → S.1 23 i = t i) (hb : ∀ i, -1 ≤ t i ∧ t i ≤ 48) : ∀ (d N : Nat) (i a : Int), 0 ≤ i → i + d = nl → d < N → (a = -1 ∨ (0 ≤ a ∧ a < i)) → f_X3_nearestFree_4 20 N p a i S = some (nfF pl t p d i a, S) := by
  obtain ⟨⟨b1, b2⟩, -, b3⟩ := hB
  have e0 := hL.1
  intro d
  induction d with
  | zero =>
    intro N i a h0 hi hN ha
    obtain ⟨N, rfl⟩ : ∃ M, N = M + 1 := ⟨N - 1, by omega⟩
    rw [f_X3_nearestFree_4]
    simp (disch := omega) only [e0, gI, uI, cI_of, aI_of, sI_of, mnI_of, mxI_of, abI_of, dvI_of, rmI_of, bI_of, bV_of, rI, rV, rL, rP, rT, rZ_of, rC_of, if_pos, if_neg, if_true, if_false]
    rfl
  | succ d ih =>
    intro N i a h0 hi hN ha
    obtain ⟨N, rfl⟩ : ∃ M, N = M + 1 := ⟨N - 1, by omega⟩
    have e1 := ht i h0 (by omega)
    have e2 := hL.2.2 i h0 (by omega)
    have q1 := b3 i h0 (by omega)
    have q2 := hb i
    have e : nfF pl t p (d + 1) i a = nfF pl t p d (i + 1) (if t i = -1 ∧ (a = -1 ∨ dst (pl i) p < dst (pl a) p) then i else a) := rfl
    rw [e]
    by_cases g : t i = -1
    · by_cases k : a = -1
      · rw [if_pos ⟨g, Or.inl k⟩, ← ih N (i + 1) i (by omega) (by omega) (by omega) (Or.inr ⟨h0, by omega⟩), f_X3_nearestFree_4]
        simp (disch := omega) only [e0, e1, f_X3_nearestFree_52, f_X3_nearestFree_54, gI, uI, cI_of, aI_of, sI_of, mnI_of, mxI_of, abI_of, dvI_of, rmI_of, bI_of, bV_of, rI, rV, rL, rP, rT, rZ_of, rC_of, if_pos, if_neg, if_true, if_false]
      · have e3 := hL.2.2 a (by omega) (by omega)
        have q3 := b3 a (by omega) (by omega)
        by_cases x : dst (pl i) p < dst (pl a) p
        · rw [if_pos ⟨g, Or.inr x⟩, ← ih N (i + 1) i (by omega) (by omega) (by omega) (Or.inr ⟨h0, by omega⟩), f_X3_nearestFree_4]
          unfold dst at x
          simp (disch := omega) only [e0, e1, e2, e3, f_X3_nearestFree_52, f_X3_nearestFree_54, gI, uI, cI_of, aI_of, sI_of, mnI_of, mxI_of, abI_of, dvI_of, rmI_of, bI_of, bV_of, rI, rV, rL, rP, rT, rZ_of, rC_of, if_pos, if_neg, if_true, if_false]
        · rw [if_neg (fun y => y.2.elim k x), ← ih N (i + 1) a (by omega) (by omega) (by omega) (by omega), f_X3_nearestFree_4]
          unfold dst at x
          simp (disch := omega) only [e0, e1, e2, e3, f_X3_nearestFree_52, f_X3_nearestFree_54, gI, uI, cI_of, aI_of, sI_of, mnI_of, mxI_of, abI_of, dvI_of, rmI_of, bI_of, bV_of, rI, rV, rL, rP, rT, rZ_of, rC_of, if_pos, if_neg, if_true, if_false]
    · rw [if_neg (fun y => g y.1), ← ih N (i + 1) a (by omega) (by omega) (by omega) (by omega), f_X3_nearestFree_4]
      simp (disch := omega) only [e0, e1, f_X3_nearestFree_54, gI, uI, cI_of, aI_of, sI_of, mnI_of, mxI_of, abI_of, dvI_of, rmI_of, bI_of, bV_of, rI, rV, rL, rP, rT, rZ_of, rC_of, if_pos, if_neg, if_true, if_false]
/-- the class's match, from peak k on -/
theorem matchC_loop (hB : LnB nl r pl) (h0n : 1 ≤ n) (hn : n ≤ 48) (hb : CvB n s) (hby : -9 ≤ by_ ∧ by_ ≤ 9) : ∀ (d N k : Nat) (S : S2) (t : Int → Int), (k : Int) + d = pkK n s z → d + 100 < N → LnC S nl r pl → CP S 6 n s z → mtI t k → (∀ i, 0 ≤ i → i < nl → S.1 23 i = t i) → ∃ S', f_X3_match_28 20 6 N by_ (cntT nl t) k S = some (cntT nl (fld (mtStep nl pl r (qP n s) by_) d k t), S') ∧ (∀ i, 0 ≤ i → i < nl → S'.1 23 i = fld (mtStep nl pl r (qP n s) by_) d k t i) ∧ Fr is23 S S' := by
  obtain ⟨⟨b1, b2⟩, b4, b3⟩ := id hB
  have pf := pk_facts h0n hn hb
  have kK := kpF_in (L := fun k => pkL n s (pkW n s k)) (z := z) ((pkC n s).toNat - 1) 1
  have kE : kpF (fun k => pkL n s (pkW n s k)) z ((pkC n s).toNat - 1) 1 = pkK n s z := rfl
  rw [kE] at kK
  intro d
  induction d with
  | zero =>
    intro N k S t hk hN hL hP hI ht
    obtain ⟨N, rfl⟩ : ∃ M, N = M + 1 := ⟨N - 1, by omega⟩
    have e1 := hP.2.1
    refine ⟨S, ?_, ht, Fr.refl⟩
    rw [f_X3_match_28]
    simp (disch := omega) only [e1, gI, uI, cI_of, aI_of, sI_of, mnI_of, mxI_of, abI_of, dvI_of, rmI_of, bI_of, bV_of, rI, rV, rL, rP, rT, rZ_of, rC_of, if_pos, if_neg, if_true, if_false]
    rfl
  | succ d ih =>
    intro N k S t hk hN hL hP hI ht
    obtain ⟨N, rfl⟩ : ∃ M, N = M + 1 := ⟨N - 1, by omega⟩
    have e1 := hP.2.1
    have e0 := hL.1
    have er := hL.2.1
    have ci := cntT_in (t := t) b1
    by_cases full : cntT nl t = nl
    · refine ⟨S, ?_, ?_, Fr.refl⟩
      · rw [mt_stuck b1 full, f_X3_match_28]
        simp (disch := omega) only [e1, e0, gI, uI, cI_of, aI_of, sI_of, mnI_of, mxI_of, abI_of, dvI_of, rmI_of, bI_of, bV_of, rI, rV, rL, rP, rT, rZ_of, rC_of, if_pos, if_neg, if_true, if_false]
      · rw [mt_stuck b1 full]; exact ht
    · have kc : (k : Int) < pkC n s := by omega
      have ep := placeC_of N hP h0n hn hb (k := k) (by omega) kc
      have w := (pkW_ok h0n hn hb).range pf.1.1 k (by omega) kc
      have wp := (pf.2.1 _ w.1 w.2).1
      obtain ⟨p, hp⟩ : ∃ p, p = pkP n s (pkW n s k) + by_ := ⟨_, rfl⟩
      have en := nearC_loop (t := t) (p := p) hB (by omega) hL ht (fun i => by have := hI i; omega) nl.toNat N 0 (-1) (by omega) (by omega) (by omega) (Or.inl rfl)
      have nin := nfF_in (pl := pl) (t := t) (p := p) nl.toNat 0 (-1) (by omega) (Or.inl rfl)
      have hs : mtStep nl pl r (qP n s) by_ t k = (if lnA nl pl r p t = -1 then t else upI t (lnA nl pl r p t) k) := by rw [hp]; rfl
      have hc := cntT_step (nl := nl) (pl := pl) (r := r) (P := qP n s) (by_ := by_) (t := t) (k := k) b1 (by omega)
      have hI2 := mtI_step (nl := nl) (pl := pl) (r := r) (P := qP n s) (by_ := by_) hI (by omega)
      have hc : cntT nl (mtStep nl pl r (qP n s) by_ t k) = cntT nl t + (if lnA nl pl r p t = -1 then 0 else 1) := by rw [hc, hp]; rfl
      rw [fld]
      obtain ⟨a, ha⟩ : ∃ a, a = nfF pl t p nl.toNat 0 (-1) := ⟨_, rfl⟩
      rw [← ha] at en nin
      have step : ∀ S1 : S2, (∀ i, 0 ≤ i → i < nl → S1.1 23 i = mtStep nl pl r (qP n s) by_ t k i) → Fr is23 S S1 → ∃ S', f_X3_match_28 20 6 N by_ (cntT nl (mtStep nl pl r (qP n s) by_ t k)) ((k : Int) + 1) S1 = some (cntT nl (fld (mtStep nl pl r (qP n s) by_) d ((k : Int) + 1) (mtStep nl pl r (qP n s) by_ t k)), S') ∧ (∀ i, 0 ≤ i → i < nl → S'.1 23 i = fld (mtStep nl pl r (qP n s) by_) d ((k : Int) + 1) (mtStep nl pl r (qP n s) by_ t k) i) ∧ Fr is23 S S' := fun S1 h1 fr => by
        obtain ⟨S', f1, f2, f3⟩ := ih N (k + 1) S1 (mtStep nl pl r (qP n s) by_ t k) (by omega) (by omega) (hL.kept fr (by decide) (by decide)) (hP.kept fr (fun j x y z => by have z : j = 23 := z; omega)) (by rw [show ((k + 1 : Nat) : Int) = (k : Int) + 1 by omega]; exact hI2) h1
        rw [show ((k + 1 : Nat) : Int) = (k : Int) + 1 by omega] at f1 f2
        exact ⟨S', f1, f2, fr.trans f3 (fun _ h => h) (fun _ h => h)⟩
      by_cases g1 : a = -1
      · have l1 : lnA nl pl r p t = -1 := by unfold lnA; rw [← ha, if_neg (fun y => y.1 g1)]
        rw [l1, if_pos rfl] at hs hc
        obtain ⟨S', f1, f2, f3⟩ := step S (by rw [hs]; exact ht) Fr.refl
        refine ⟨S', ?_, f2, f3⟩
        rw [hc] at f1
        rw [f_X3_match_28]
        unfold f_X3_nearestFree
        simp (disch := omega) only [e1, e0, ep, gI, uI, cI_of, aI_of, sI_of, mnI_of, mxI_of, abI_of, dvI_of, rmI_of, bI_of, bV_of, rI, rV, rL, rP, rT, rZ_of, rC_of, if_pos, if_neg, if_true, if_false]
        rw [← hp, en, bI_of]
        simp (disch := omega) only [f_X3_match_101, gI, uI, cI_of, aI_of, sI_of, mnI_of, mxI_of, abI_of, dvI_of, rmI_of, bI_of, bV_of, rI, rV, rL, rP, rT, rZ_of, rC_of, if_pos, if_neg, if_true, if_false]
        rw [show cntT nl t + 0 = cntT nl t by omega] at f1
        exact f1
      · have na : 0 ≤ a ∧ a < nl ∧ t a = -1 := by rcases nin with q | q; exact absurd q g1; omega
        have ea := hL.2.2 a na.1 na.2.1
        have ba := b3 a na.1 na.2.1
        by_cases g2 : dst (pl a) p ≤ r
        · have l1 : lnA nl pl r p t = a := by unfold lnA; rw [← ha, if_pos ⟨g1, g2⟩]
          rw [l1, if_neg g1] at hs hc
          have fr : Fr is23 S (pI S 23 a k) := Fr.refl.pI rfl
          obtain ⟨S', f1, f2, f3⟩ := step (pI S 23 a k) (by
            rw [hs]; intro i x y
            by_cases e : i = a
            · rw [e, pI_eq, upI_eq]
            · rw [pI_idx e, upI_ne e]; exact ht i x y) fr
          refine ⟨S', ?_, f2, f3⟩
          rw [hc] at f1
          unfold dst at g2
          rw [f_X3_match_28]
          unfold f_X3_nearestFree
          simp (disch := omega) only [e1, e0, ep, gI, uI, cI_of, aI_of, sI_of, mnI_of, mxI_of, abI_of, dvI_of, rmI_of, bI_of, bV_of, rI, rV, rL, rP, rT, rZ_of, rC_of, if_pos, if_neg, if_true, if_false]
          rw [← hp, en, bI_of]
          simp (disch := omega) only [f_X3_match_101, ea, er, gI, uI, cI_of, aI_of, sI_of, mnI_of, mxI_of, abI_of, dvI_of, rmI_of, bI_of, bV_of, rI, rV, rL, rP, rT, rZ_of, rC_of, if_pos, if_neg, if_true, if_false]
          exact f1
        · have l1 : lnA nl pl r p t = -1 := by unfold lnA; rw [← ha, if_neg (fun y => g2 y.2)]
          rw [l1, if_pos rfl] at hs hc
          obtain ⟨S', f1, f2, f3⟩ := step S (by rw [hs]; exact ht) Fr.refl
          refine ⟨S', ?_, f2, f3⟩
          rw [hc] at f1
          unfold dst at g2
          rw [f_X3_match_28]
          unfold f_X3_nearestFree
          simp (disch := omega) only [e1, e0, ep, gI, uI, cI_of, aI_of, sI_of, mnI_of, mxI_of, abI_of, dvI_of, rmI_of, bI_of, bV_of, rI, rV, rL, rP, rT, rZ_of, rC_of, if_pos, if_neg, if_true, if_false]
          rw [← hp, en, bI_of]
          simp (disch := omega) only [f_X3_match_101, ea, er, gI, uI, cI_of, aI_of, sI_of, mnI_of, mxI_of, abI_of, dvI_of, rmI_of, bI_of, bV_of, rI, rV, rL, rP, rT, rZ_of, rC_of, if_pos, if_neg, if_true, if_false]
          rw [show cntT nl t + 0 = cntT nl t by omega] at f1
          exact f1
theorem matchC_init (hB : LnB nl r pl) : ∀ (d N : Nat) (i : Int) (S : S2), 0 ≤ i → i + d = nl → d < N → S.1 20 0 = nl → (∀ j, 0 ≤ j → j < i → S.1 23 j = -1) → ∃ S', (∀ K, f_X3_match_2 20 6 K N by_ i S = K by_ S') ∧ (∀ j, 0 ≤ j → j < nl → S'.1 23 j = -1) ∧ Fr is23 S S' := by
  obtain ⟨⟨b1, b2⟩, b4, b3⟩ := id hB
  intro d
  induction d with
  | zero =>
    intro N i S h0 hi hN e0 h
    obtain ⟨N, rfl⟩ : ∃ M, N = M + 1 := ⟨N - 1, by omega⟩
    refine ⟨S, fun K => ?_, fun j a b => h j a (by omega), Fr.refl⟩
    rw [f_X3_match_2]
    simp (disch := omega) only [e0, gI, uI, cI_of, aI_of, sI_of, mnI_of, mxI_of, abI_of, dvI_of, rmI_of, bI_of, bV_of, rI, rV, rL, rP, rT, rZ_of, rC_of, if_pos, if_neg, if_true, if_false]
  | succ d ih =>
    intro N i S h0 hi hN e0 h
    obtain ⟨N, rfl⟩ : ∃ M, N = M + 1 := ⟨N - 1, by omega⟩
    have fr : Fr is23 S (pI S 23 i (-1)) := Fr.refl.pI rfl
    obtain ⟨S', f1, f2, f3⟩ := ih N (i + 1) (pI S 23 i (-1)) (by omega) (by omega) (by omega) (by rw [pI_cell (by decide)]; exact e0) (fun j a b => by
      by_cases e : j = i
      · rw [e, pI_eq]
      · rw [pI_idx e]; exact h j a (by omega))
    refine ⟨S', fun K => ?_, f2, fr.trans f3 (fun _ h => h) (fun _ h => h)⟩
    rw [f_X3_match_2]
    simp (disch := omega) only [e0, gI, uI, cI_of, aI_of, sI_of, mnI_of, mxI_of, abI_of, dvI_of, rmI_of, bI_of, bV_of, rI, rV, rL, rP, rT, rZ_of, rC_of, if_pos, if_neg, if_true, if_false]
    exact f1 K
/-- the class's match: who took each line -/
noncomputable def mtF (n : Int) (s : Int → Int) (z nl : Int) (pl : Int → Int) (r by_ : Int) : Int → Int := mtT nl pl r (qP n s) by_ (pkK n s z).toNat
theorem pkK_in (h0n : 1 ≤ n) (hn : n ≤ 48) (hb : CvB n s) : 1 ≤ pkK n s z ∧ pkK n s z ≤ pkC n s := by
  have pf := (pk_facts h0n hn hb).1
  have kK := (kpF_in (L := fun k => pkL n s (pkW n s k)) (z := z) ((pkC n s).toNat - 1) 1).1
  have kE : kpF (fun k => pkL n s (pkW n s k)) z ((pkC n s).toNat - 1) 1 = pkK n s z := rfl
  rw [kE] at kK; omega
theorem matchC_of (N : Nat) (hB : LnB nl r pl) (h0n : 1 ≤ n) (hn : n ≤ 48) (hb : CvB n s) (hby : -9 ≤ by_ ∧ by_ ≤ 9) (hL : LnC S nl r pl) (hP : CP S 6 n s z) (hN : 400 ≤ N) : ∃ S', f_X3_match N S 20 6 by_ = some (cntT nl (mtF n s z nl pl r by_), S') ∧ (∀ i, 0 ≤ i → i < nl → S'.1 23 i = mtF n s z nl pl r by_ i) ∧ Fr is23 S S' := by
  have kk := pkK_in (z := z) h0n hn hb
  have pf := (pk_facts h0n hn hb).1
  have b1 := hB.1
  obtain ⟨S1, a1, a2, a3⟩ := matchC_init (by_ := by_) hB nl.toNat N 0 S (by omega) (by omega) (by omega) hL.1 (fun j a b => by omega)
  obtain ⟨S', f1, f2, f3⟩ := matchC_loop (z := z) hB h0n hn hb hby (pkK n s z).toNat N 0 S1 (fun _ => -1) (by omega) (by omega) (hL.kept a3 (by decide) (by decide)) (hP.kept a3 (fun j x y z => by have z : j = 23 := z; omega)) (fun i => Or.inl rfl) a2
  have z0 : cntT nl (fun _ => -1) = 0 := by
    unfold cntT
    have : ∀ (d : Nat) (i a : Int), cntF (fun _ : Int => (-1 : Int) ≠ -1) d i a = a := by
      intro d
      induction d with
      | zero => intro i a; rfl
      | succ d ih => intro i a; show cntF (fun _ : Int => (-1 : Int) ≠ -1) d (i + 1) (if (-1 : Int) ≠ -1 then a + 1 else a) = a; rw [if_neg (by decide)]; exact ih (i + 1) a
    exact this _ _ _
  refine ⟨S', ?_, f2, a3.trans f3 (fun _ h => h) (fun _ h => h)⟩
  unfold f_X3_match
  rw [a1, f_X3_match_23]
  rw [z0] at f1
  exact f1
theorem takenBy_loop {t : Int → Int} {k : Int} (hB : LnB nl r pl) (h0 : S.1 20 0 = nl) (ht : ∀ i, 0 ≤ i → i < nl → S.1 23 i = t i) (hb : ∀ i, -1 ≤ t i ∧ t i ≤ 48) (hk : -1 ≤ k ∧ k ≤ 48) : ∀ (d N : Nat) (i : Int), 0 ≤ i → i + d = nl → d < N → f_X3_takenBy_2 20 N k i S = some (tkF t k d i, S) := by
  obtain ⟨⟨b1, b2⟩, b4, b3⟩ := id hB
  intro d
  induction d with
  | zero =>
    intro N i hi0 hi hN
    obtain ⟨N, rfl⟩ : ∃ M, N = M + 1 := ⟨N - 1, by omega⟩
    rw [f_X3_takenBy_2]
    simp (disch := omega) only [h0, gI, uI, cI_of, aI_of, sI_of, mnI_of, mxI_of, abI_of, dvI_of, rmI_of, bI_of, bV_of, rI, rV, rL, rP, rT, rZ_of, rC_of, if_pos, if_neg, if_true, if_false]
    rfl
  | succ d ih =>
    intro N i hi0 hi hN
    obtain ⟨N, rfl⟩ : ∃ M, N = M + 1 := ⟨N - 1, by omega⟩
    have e1 := ht i hi0 (by omega)
    have q := hb i
    rw [tkF]
    by_cases g : t i = k
    · rw [if_pos g, f_X3_takenBy_2]
      simp (disch := omega) only [h0, e1, gI, uI, cI_of, aI_of, sI_of, mnI_of, mxI_of, abI_of, dvI_of, rmI_of, bI_of, bV_of, rI, rV, rL, rP, rT, rZ_of, rC_of, if_pos, if_neg, if_true, if_false]
    · rw [if_neg g, ← ih N (i + 1) (by omega) (by omega) (by omega), f_X3_takenBy_2]
      simp (disch := omega) only [h0, e1, gI, uI, cI_of, aI_of, sI_of, mnI_of, mxI_of, abI_of, dvI_of, rmI_of, bI_of, bV_of, rI, rV, rL, rP, rT, rZ_of, rC_of, if_pos, if_neg, if_true, if_false]
/-- the line of peak k -/
noncomputable def lnQ (n : Int) (s : Int → Int) (z nl : Int) (pl : Int → Int) (r by_ k : Int) : Int := lnF nl pl r (qP n s) (pkK n s z) by_ k
theorem takenBy_of (N : Nat) (hB : LnB nl r pl) (h0n : 1 ≤ n) (hn : n ≤ 48) (hb : CvB n s) (h0 : S.1 20 0 = nl) (ht : ∀ i, 0 ≤ i → i < nl → S.1 23 i = mtF n s z nl pl r by_ i) {k : Int} (h1 : 0 ≤ k) (h2 : k < pkC n s) (hN : 100 ≤ N) : f_X3_takenBy N S 20 k = some (lnQ n s z nl pl r by_ k, S) := by
  have kk := pkK_in (z := z) h0n hn hb
  have pf := (pk_facts h0n hn hb).1
  have b1 := hB.1
  have hI := mtT_I (nl := nl) (pl := pl) (r := r) (P := qP n s) (by_ := by_) (pkK n s z).toNat
  have hI2 : ∀ i, -1 ≤ mtF n s z nl pl r by_ i ∧ mtF n s z nl pl r by_ i ≤ 48 := fun i => by have := hI i; show -1 ≤ mtT nl pl r (qP n s) by_ (pkK n s z).toNat i ∧ mtT nl pl r (qP n s) by_ (pkK n s z).toNat i ≤ 48; omega
  unfold f_X3_takenBy
  rw [takenBy_loop hB h0 ht hI2 (by omega) nl.toNat N 0 (by omega) (by omega) (by omega)]
  congr 2
  by_cases g : k < pkK n s z
  · have := mtT_tk (nl := nl) (pl := pl) (r := r) (P := qP n s) (by_ := by_) (k := k) (K := (pkK n s z).toNat) b1.1 h1 (by omega)
    rw [show (((pkK n s z).toNat : Nat) : Int) = pkK n s z by omega] at this
    exact this
  · show tkF (mtF n s z nl pl r by_) k nl.toNat 0 = lnF nl pl r (qP n s) (pkK n s z) by_ k
    have : lnF nl pl r (qP n s) (pkK n s z) by_ k = -1 := by unfold lnF; rw [if_neg g]
    rw [this]
    refine tkF_eq (fun i => ⟨fun h => ?_, fun h => absurd rfl h.1⟩) nl.toNat 0 (Or.inl rfl)
    have q := hI i
    have h : mtT nl pl r (qP n s) by_ (pkK n s z).toNat i = k := h
    omega
end MATCHC
