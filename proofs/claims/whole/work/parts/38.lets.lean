/-! peaks as they come: T = (came, place, valley, death, parent, belongs) -/
abbrev PT : Type := Int × (Int → Int) × (Int → Int) × (Int → Int) × (Int → Int) × (Int → Int)
abbrev tc (T : PT) : Int := T.1
abbrev tp (T : PT) : Int → Int := T.2.1
abbrev tv (T : PT) : Int → Int := T.2.2.1
abbrev td (T : PT) : Int → Int := T.2.2.2.1
abbrev ta (T : PT) : Int → Int := T.2.2.2.2.1
abbrev tb (T : PT) : Int → Int := T.2.2.2.2.2
def upI (f : Int → Int) (k v : Int) : Int → Int := fun x => if x = k then v else f x
theorem upI_eq {f : Int → Int} {k v : Int} : upI f k v k = v := if_pos rfl
theorem upI_ne {f : Int → Int} {k v x : Int} (h : x ≠ k) : upI f k v x = f x := if_neg h
def nbr (n : Int) (T : PT) (q : Int) : Int := if 0 ≤ q ∧ q < n then tb T q else -1
def stB (p : Int) (T : PT) : PT := (tc T + 1, upI (tp T) (tc T) p, upI (tv T) (tc T) (-1), td T, upI (ta T) (tc T) (-1), upI (tb T) p (tc T))
def stG (p x : Int) (T : PT) : PT := (tc T, tp T, tv T, td T, ta T, upI (tb T) p x)
def stJ (s : Int → Int) (p l g : Int) (T : PT) : PT := (tc T, tp T, upI (tv T) g p, upI (td T) g (s p), upI (ta T) g l, fun q => if q = p then l else if tb T q = g then l else tb T q)
/-- place p comes -/
def stp (n : Int) (s : Int → Int) (p : Int) (T : PT) : PT :=
  if nbr n T (p - 1) = -1 ∧ nbr n T (p + 1) = -1 then stB p T
  else if nbr n T (p - 1) = -1 ∨ nbr n T (p + 1) = -1 ∨ nbr n T (p - 1) = nbr n T (p + 1) then stG p (if nbr n T (p - 1) = -1 then nbr n T (p + 1) else nbr n T (p - 1)) T
  else stJ s p (min (nbr n T (p - 1)) (nbr n T (p + 1))) (max (nbr n T (p - 1)) (nbr n T (p + 1))) T
/-- the reference's cells hold T -/
def MT (S : S2) (n : Int) (T : PT) : Prop := S.1 0 35 = tc T ∧ (∀ c, 0 ≤ c → c < tc T → S.1 13 c = tp T c ∧ S.1 14 c = tv T c ∧ S.1 16 c = ta T c ∧ (ta T c ≠ -1 → S.1 15 c = td T c)) ∧ (∀ q, 0 ≤ q → q < n → S.1 17 q = tb T q)
/-- nothing but the cells A and the fields F of cell 0 -/
def FrM (A : Nat → Prop) (F : Int → Prop) (S S' : S2) : Prop := S'.2 = S.2 ∧ (∀ j, j ≠ 0 → ¬ A j → S'.1 j = S.1 j) ∧ (∀ k, ¬ F k → S'.1 0 k = S.1 0 k)
theorem FrM.refl {A : Nat → Prop} {F : Int → Prop} {S : S2} : FrM A F S S := ⟨rfl, fun _ _ _ => rfl, fun _ _ => rfl⟩
theorem FrM.trans {A B C : Nat → Prop} {F G K : Int → Prop} {S S' S'' : S2} (h : FrM A F S S') (g : FrM B G S' S'') (hA : ∀ j, A j → C j) (hB : ∀ j, B j → C j) (hF : ∀ k, F k → K k) (hG : ∀ k, G k → K k) : FrM C K S S'' :=
  ⟨g.1.trans h.1, fun j h0 hj => (g.2.1 j h0 (fun q => hj (hB j q))).trans (h.2.1 j h0 (fun q => hj (hA j q))), fun k hk => (g.2.2 k (fun q => hk (hG k q))).trans (h.2.2 k (fun q => hk (hF k q)))⟩
theorem FrM.mono {A C : Nat → Prop} {F K : Int → Prop} {S S' : S2} (h : FrM A F S S') (hA : ∀ j, A j → C j) (hF : ∀ k, F k → K k) : FrM C K S S' := ⟨h.1, fun j h0 hj => h.2.1 j h0 (fun q => hj (hA j q)), fun k hk => h.2.2 k (fun q => hk (hF k q))⟩
theorem FrM.of {A : Nat → Prop} {F : Int → Prop} {S S' : S2} (h : Fr A S S') (h0 : ¬ A 0) : FrM A F S S' := ⟨h.1, fun j _ hj => h.2 j hj, fun k _ => by rw [h.2 0 h0]⟩
theorem FrM.wI {A : Nat → Prop} {F : Int → Prop} {S S' : S2} {i : Nat} {k v : Int} (h : FrM A F S S') (hi : A i) (h0 : i ≠ 0) : FrM A F S (pI S' i k v) := ⟨h.1, fun j g hj => (pI_row (fun q => hj (by rw [q]; exact hi))).trans (h.2.1 j g hj), fun x hx => by rw [pI_cell (fun q => h0 q.symm)]; exact h.2.2 x hx⟩
theorem FrM.wF {A : Nat → Prop} {F : Int → Prop} {S S' : S2} {k v : Int} (h : FrM A F S S') (hk : F k) : FrM A F S (pI S' 0 k v) := ⟨h.1, fun j g hj => (pI_row g).trans (h.2.1 j g hj), fun x hx => by rw [pI_idx (fun q => hx (by rw [q]; exact hk))]; exact h.2.2 x hx⟩
theorem CvM.keptM {A : Nat → Prop} {F : Int → Prop} {S S' : S2} {m : Nat} {n z : Int} {s : Int → Int} (h : CvM S m n s z) (f : FrM A F S S') (h0 : m ≠ 0) (h1 : ¬ A m) : CvM S' m n s z := ⟨by rw [f.2.1 m h0 h1]; exact h.1, by rw [f.2.1 m h0 h1]; exact h.2.1, fun i a b => by rw [f.2.1 _ h0 h1]; exact h.2.2 i a b⟩
abbrev letsA : Nat → Prop := fun j => 13 ≤ j ∧ j ≤ 17
abbrev letsF : Int → Prop := fun k => k = 35
section LETS
variable {S : S2} {n z : Int} {s : Int → Int} {T : PT}
theorem belongsAt_of (N : Nat) (hc : CvM S 8 n s z) (hT : MT S n T) (h0 : 0 ≤ n) (hn : n ≤ 48) {q : Int} (h1 : -1 ≤ q) (h2 : q ≤ 48) : f_X11_belongsAt N S q = some (nbr n T q, S) := by
  unfold f_X11_belongsAt nbr
  by_cases g : 0 ≤ q ∧ q < n
  · have e := hT.2.2 q g.1 g.2
    simp (disch := omega) only [many_of N hc, in_y N, e, gI, uI, cI_of, aI_of, sI_of, mnI_of, mxI_of, abI_of, dvI_of, rmI_of, bI_of, bV_of, rI, rV, rL, rP, rT, rZ_of, rC_of, if_pos, if_neg, if_true, if_false]
  · simp (disch := omega) only [many_of N hc, in_n N, gI, uI, cI_of, aI_of, sI_of, mnI_of, mxI_of, abI_of, dvI_of, rmI_of, bI_of, bV_of, rI, rV, rL, rP, rT, rZ_of, rC_of, if_pos, if_neg, if_true, if_false]
theorem begins_of (N : Nat) (hT : MT S n T) (hn : n ≤ 48) (h1 : 0 ≤ tc T) (h2 : tc T < 48) {p : Int} (h3 : 0 ≤ p) (h4 : p < n) : ∃ S', f_X11_beginsAt N S p = some S' ∧ MT S' n (stB p T) ∧ FrM letsA letsF S S' := by
  have e := hT.1
  refine ⟨pI (pI (pI (pI (pI S 13 (tc T) p) 14 (tc T) (-1)) 16 (tc T) (-1)) 17 p (tc T)) 0 35 (tc T + 1), ?_, ⟨pI_eq, fun c a b => ?_, fun q a b => ?_⟩, ((((FrM.refl.wI (by decide) (by decide)).wI (by decide) (by decide)).wI (by decide) (by decide)).wI (by decide) (by decide)).wF rfl⟩
  · unfold f_X11_beginsAt
    simp (disch := omega) only [e, pI_cell, gI, uI, cI_of, aI_of, sI_of, mnI_of, mxI_of, abI_of, dvI_of, rmI_of, bI_of, bV_of, rI, rV, rL, rP, rT, rZ_of, rC_of, if_pos, if_neg, if_true, if_false]
  · show (pI (pI (pI (pI (pI S 13 (tc T) p) 14 (tc T) (-1)) 16 (tc T) (-1)) 17 p (tc T)) 0 35 (tc T + 1)).1 13 c = upI (tp T) (tc T) p c ∧ (pI (pI (pI (pI (pI S 13 (tc T) p) 14 (tc T) (-1)) 16 (tc T) (-1)) 17 p (tc T)) 0 35 (tc T + 1)).1 14 c = upI (tv T) (tc T) (-1) c ∧ (pI (pI (pI (pI (pI S 13 (tc T) p) 14 (tc T) (-1)) 16 (tc T) (-1)) 17 p (tc T)) 0 35 (tc T + 1)).1 16 c = upI (ta T) (tc T) (-1) c ∧ (upI (ta T) (tc T) (-1) c ≠ -1 → (pI (pI (pI (pI (pI S 13 (tc T) p) 14 (tc T) (-1)) 16 (tc T) (-1)) 17 p (tc T)) 0 35 (tc T + 1)).1 15 c = td T c)
    simp (disch := omega) only [pI_cell]
    by_cases g : c = tc T
    · subst g
      exact ⟨by rw [pI_eq, upI_eq], by rw [pI_eq, upI_eq], by rw [pI_eq, upI_eq], fun h => absurd upI_eq h⟩
    · have b' : c < tc T + 1 := b
      have := hT.2.1 c a (by omega)
      simp (disch := omega) only [pI_idx, upI_ne]
      exact this
  · show (pI (pI (pI (pI (pI S 13 (tc T) p) 14 (tc T) (-1)) 16 (tc T) (-1)) 17 p (tc T)) 0 35 (tc T + 1)).1 17 q = upI (tb T) p (tc T) q
    simp (disch := omega) only [pI_cell]
    by_cases g : q = p
    · subst g; rw [pI_eq, upI_eq]
    · rw [pI_idx g, upI_ne g]
      simp (disch := omega) only [pI_cell]
      exact hT.2.2 q a b
theorem grows_of (hT : MT S n T) {p x : Int} : MT (pI S 17 p x) n (stG p x T) ∧ FrM letsA letsF S (pI S 17 p x) := by
  refine ⟨⟨by rw [pI_cell (by decide)]; exact hT.1, fun c a b => ?_, fun q a b => ?_⟩, FrM.refl.wI (by decide) (by decide)⟩
  · rw [pI_cell (by decide), pI_cell (by decide), pI_cell (by decide), pI_cell (by decide)]
    exact hT.2.1 c a b
  · show _ = upI (tb T) p x q
    by_cases g : q = p
    · subst g; rw [pI_eq, upI_eq]
    · rw [pI_idx g, upI_ne g]; exact hT.2.2 q a b
theorem joins_loop {p l g : Int} {f : Int → Int} (hn : n ≤ 48) (hf : ∀ q, 0 ≤ q → q < n → -1 ≤ f q ∧ f q ≤ 48) (hl : -1 ≤ g ∧ g ≤ 48) : ∀ (d N : Nat) (i : Int) (S : S2), 0 ≤ i → i + d = n → d < N → CvM S 8 n s z → (∀ q, 0 ≤ q → q < n → S.1 17 q = if q < i ∧ f q = g then l else f q) → ∃ S', (∀ K, f_X11_joins_47 K N p l g i S = K p l S') ∧ (∀ q, 0 ≤ q → q < n → S'.1 17 q = if f q = g then l else f q) ∧ FrM (fun j => j = 17) (fun _ => False) S S' := by
  intro d
  induction d with
  | zero =>
    intro N i S h0 hi hN hc h
    obtain ⟨N, rfl⟩ : ∃ M, N = M + 1 := ⟨N - 1, by omega⟩
    refine ⟨S, fun K => ?_, fun q a b => ?_, FrM.refl⟩
    · rw [f_X11_joins_47]
      simp (disch := omega) only [many_of N hc, gI, uI, cI_of, aI_of, sI_of, mnI_of, mxI_of, abI_of, dvI_of, rmI_of, bI_of, bV_of, rI, rV, rL, rP, rT, rZ_of, rC_of, if_pos, if_neg, if_true, if_false]
    · rw [h q a b]
      by_cases e : f q = g
      · rw [if_pos ⟨by omega, e⟩, if_pos e]
      · rw [if_neg (fun x => e x.2), if_neg e]
  | succ d ih =>
    intro N i S h0 hi hN hc h
    obtain ⟨N, rfl⟩ : ∃ M, N = M + 1 := ⟨N - 1, by omega⟩
    have e := h i h0 (by omega)
    rw [if_neg (by omega)] at e
    have bf := hf i h0 (by omega)
    have step : ∀ v, v = (if f i = g then l else f i) → ∃ S', (∀ K, f_X11_joins_47 K N p l g (i + 1) (pI S 17 i v) = K p l S') ∧ (∀ q, 0 ≤ q → q < n → S'.1 17 q = if f q = g then l else f q) ∧ FrM (fun j => j = 17) (fun _ => False) S S' := fun v hv => by
      have fr : FrM (fun j => j = 17) (fun _ => False) S (pI S 17 i v) := FrM.refl.wI rfl (by decide)
      obtain ⟨S', e1, e2, e3⟩ := ih N (i + 1) (pI S 17 i v) (by omega) (by omega) (by omega) (hc.keptM fr (by decide) (by decide)) (fun q a b => by
        by_cases w : q = i
        · rw [w, pI_eq, hv]
          by_cases y : f i = g
          · rw [if_pos y, if_pos ⟨by omega, y⟩]
          · rw [if_neg y, if_neg (fun x => y x.2)]
        · rw [pI_idx w, h q a b]
          by_cases y : f q = g
          · by_cases x : q < i
            · rw [if_pos ⟨x, y⟩, if_pos ⟨by omega, y⟩]
            · rw [if_neg (fun k => x k.1), if_neg (fun k => by omega)]
          · rw [if_neg (fun k => y k.2), if_neg (fun k => y k.2)])
      exact ⟨S', e1, e2, fr.trans e3 (fun _ h => h) (fun _ h => h) (fun _ h => h) (fun _ h => h)⟩
    by_cases y : f i = g
    · obtain ⟨S', e1, e2, e3⟩ := step l (by rw [if_pos y])
      refine ⟨S', fun K => ?_, e2, e3⟩
      rw [f_X11_joins_47]
      simp (disch := omega) only [many_of N hc, e, f_X11_joins_86, gI, uI, cI_of, aI_of, sI_of, mnI_of, mxI_of, abI_of, dvI_of, rmI_of, bI_of, bV_of, rI, rV, rL, rP, rT, rZ_of, rC_of, if_pos, if_neg, if_true, if_false]
      exact e1 K
    · obtain ⟨S', e1, e2, e3⟩ := step (f i) (by rw [if_neg y])
      refine ⟨S', fun K => ?_, e2, e3⟩
      rw [f_X11_joins_47]
      simp (disch := omega) only [many_of N hc, e, f_X11_joins_86, gI, uI, cI_of, aI_of, sI_of, mnI_of, mxI_of, abI_of, dvI_of, rmI_of, bI_of, bV_of, rI, rV, rL, rP, rT, rZ_of, rC_of, if_pos, if_neg, if_true, if_false]
      exact e1 K
theorem joins_of (N : Nat) (hc : CvM S 8 n s z) (hb : CvB n s) (hT : MT S n T) (h0 : 0 ≤ n) (hn : n ≤ 48) (hN : 100 ≤ N) (hc1 : tc T ≤ 48) (hbb : ∀ q, 0 ≤ q → q < n → -1 ≤ tb T q ∧ tb T q < tc T) {p a b : Int} (h1 : 0 ≤ p) (h2 : p < n) (ha : 0 ≤ a ∧ a < tc T) (hb2 : 0 ≤ b ∧ b < tc T) (hab : a ≠ b) : ∃ S', f_X11_joins N S a b p = some S' ∧ MT S' n (stJ s p (min a b) (max a b) T) ∧ FrM letsA letsF S S' := by
  have e := hc.2.2 p h1 h2
  obtain ⟨l, hl⟩ : ∃ l, l = min a b := ⟨_, rfl⟩
  obtain ⟨g, hg⟩ : ∃ g, g = max a b := ⟨_, rfl⟩
  rw [← hl, ← hg]
  have fr1 : FrM letsA letsF S (pI (pI (pI S 14 g p) 15 g (s p)) 16 g l) := ((FrM.refl.wI (by decide) (by decide)).wI (by decide) (by decide)).wI (by decide) (by decide)
  obtain ⟨S1, e1, e2, e3⟩ := joins_loop (s := s) (z := z) (p := p) (l := l) (g := g) (f := tb T) hn (fun q x y => by have := hbb q x y; omega) (by omega) n.toNat N 0 (pI (pI (pI S 14 g p) 15 g (s p)) 16 g l) (by omega) (by omega) (by omega) (hc.keptM fr1 (by decide) (by decide)) (fun q x y => by
    rw [if_neg (by omega), pI_cell (by decide), pI_cell (by decide), pI_cell (by decide)]; exact hT.2.2 q x y)
  have k13 : ∀ j, j ≠ 0 → j ≠ 17 → S1.1 j = (pI (pI (pI S 14 g p) 15 g (s p)) 16 g l).1 j := fun j x y => e3.2.1 j x y
  refine ⟨pI S1 17 p l, ?_, ⟨?_, fun c x y => ?_, fun q x y => ?_⟩, (fr1.trans e3 (fun _ h => h) (fun j h => by have h : j = 17 := h; show 13 ≤ j ∧ j ≤ 17; omega) (fun _ h => h) (fun _ h => h.elim)).wI (by decide) (by decide)⟩
  · have e14 : (pI S 14 g p).1 8 p = s p := by rw [pI_cell (by decide)]; exact e
    unfold f_X11_joins
    simp (disch := omega) only [gI, uI, cI_of, aI_of, sI_of, mnI_of, mxI_of, abI_of, dvI_of, rmI_of, bI_of, bV_of, rI, rV, rL, rP, rT, rZ_of, rC_of, if_pos, if_neg, if_true, if_false]
    rw [← hl, ← hg]
    simp (disch := omega) only [e14, gI, uI, cI_of, aI_of, sI_of, mnI_of, mxI_of, abI_of, dvI_of, rmI_of, bI_of, bV_of, rI, rV, rL, rP, rT, rZ_of, rC_of, if_pos, if_neg, if_true, if_false]
    rw [e1]
    simp (disch := omega) only [f_X11_joins_93, gI, uI, cI_of, aI_of, sI_of, mnI_of, mxI_of, abI_of, dvI_of, rmI_of, bI_of, bV_of, rI, rV, rL, rP, rT, rZ_of, rC_of, if_pos, if_neg, if_true, if_false]
  · rw [pI_cell (by decide), e3.2.2 35 (fun h => h), pI_cell (by decide), pI_cell (by decide), pI_cell (by decide)]; exact hT.1
  · show (pI S1 17 p l).1 13 c = tp T c ∧ (pI S1 17 p l).1 14 c = upI (tv T) g p c ∧ (pI S1 17 p l).1 16 c = upI (ta T) g l c ∧ (upI (ta T) g l c ≠ -1 → (pI S1 17 p l).1 15 c = upI (td T) g (s p) c)
    have y : c < tc T := y
    rw [pI_cell (by decide), pI_cell (by decide), pI_cell (by decide), pI_cell (by decide), k13 13 (by decide) (by decide), k13 14 (by decide) (by decide), k13 16 (by decide) (by decide), k13 15 (by decide) (by decide)]
    have h := hT.2.1 c x y
    simp (disch := omega) only [pI_cell]
    by_cases w : c = g
    · subst w
      exact ⟨h.1, by rw [pI_eq, upI_eq], by rw [pI_eq, upI_eq], fun _ => by rw [pI_eq, upI_eq]⟩
    · simp (disch := omega) only [pI_idx, upI_ne]
      simp (disch := omega) only [pI_cell, pI_idx]
      exact h
  · show (pI S1 17 p l).1 17 q = if q = p then l else if tb T q = g then l else tb T q
    by_cases w : q = p
    · rw [w, pI_eq, if_pos rfl]
    · rw [pI_idx w, if_neg w]; exact e2 q x y
end LETS
