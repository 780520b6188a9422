/-! all places come; the reference's lets -/
def pst (n : Int) (s o : Int → Int) : Nat → PT
  | 0 => (0, fun _ => 0, fun _ => 0, fun _ => 0, fun _ => 0, fun _ => -1)
  | t + 1 => stp n s (o t) (pst n s o t)
section PST
variable {n z : Int} {s o : Int → Int}
theorem nbr_in {T : PT} {q : Int} (h1 : 0 ≤ q) (h2 : q < n) : nbr n T q = tb T q := if_pos ⟨h1, h2⟩
theorem nbr_out {T : PT} {q : Int} (h : ¬ (0 ≤ q ∧ q < n)) : nbr n T q = -1 := if_neg h
theorem stp_inv {T : PT} {t : Int} (h : PI n s o t (tc T) (tp T) (tv T) (td T) (ta T) (tb T)) (ho : Srt 0 n (bef s) o) (h0 : 0 ≤ t) (h1 : t < n) : PI n s o (t + 1) (tc (stp n s (o t) T)) (tp (stp n s (o t) T)) (tv (stp n s (o t) T)) (td (stp n s (o t) T)) (ta (stp n s (o t) T)) (tb (stp n s (o t) T)) := by
  have r := (h.now ho h0 h1).1
  obtain ⟨a, ha⟩ : ∃ a, a = nbr n T (o t - 1) := ⟨_, rfl⟩
  obtain ⟨b, hb⟩ : ∃ b, b = nbr n T (o t + 1) := ⟨_, rfl⟩
  have ia : 0 ≤ o t - 1 → tb T (o t - 1) = a := fun q => by rw [ha, nbr_in q (by omega)]
  have oa : ¬ 0 ≤ o t - 1 → a = -1 := fun q => by rw [ha, nbr_out (by omega)]
  have ib : o t + 1 < n → tb T (o t + 1) = b := fun q => by rw [hb, nbr_in (by omega) q]
  have ob : ¬ o t + 1 < n → b = -1 := fun q => by rw [hb, nbr_out (by omega)]
  unfold stp
  rw [← ha, ← hb]
  by_cases g1 : a = -1 ∧ b = -1
  · rw [if_pos g1]
    exact h.begin ho h0 h1 (fun q => by rw [ia q]; exact g1.1) (fun q => by rw [ib q]; exact g1.2)
  · rw [if_neg g1]
    by_cases g2 : a = -1 ∨ b = -1 ∨ a = b
    · rw [if_pos g2]
      refine h.grow ho h0 h1 (x := if a = -1 then b else a) ?_ (fun q => ?_) (fun q => ?_) ?_
      · by_cases e : a = -1
        · rw [if_pos e]; omega
        · rw [if_neg e]; exact e
      · rw [ia q]
        by_cases e : a = -1
        · exact Or.inl e
        · rw [if_neg e]; exact Or.inr rfl
      · rw [ib q]
        by_cases e : a = -1
        · rw [if_pos e]; exact Or.inr rfl
        · rw [if_neg e]; omega
      · by_cases e : a = -1
        · rw [if_pos e]
          have : o t + 1 < n := by
            by_cases q : o t + 1 < n
            · exact q
            · have := ob q; omega
          exact Or.inr ⟨this, ib this⟩
        · rw [if_neg e]
          have : 0 ≤ o t - 1 := by
            by_cases q : 0 ≤ o t - 1
            · exact q
            · have := oa q; omega
          exact Or.inl ⟨this, ia this⟩
    · rw [if_neg g2]
      have q1 : 0 ≤ o t - 1 := by
        by_cases q : 0 ≤ o t - 1
        · exact q
        · have := oa q; omega
      have q2 : o t + 1 < n := by
        by_cases q : o t + 1 < n
        · exact q
        · have := ob q; omega
      exact h.join ho h0 h1 q1 q2 (by rw [ia q1]; omega) (by rw [ib q2]; omega) (by rw [ia q1, ib q2]; omega) (by rw [ia q1, ib q2]) (by rw [ia q1, ib q2])
theorem pst_inv (ho : Srt 0 n (bef s) o) : ∀ t : Nat, (t : Int) ≤ n → PI n s o t (tc (pst n s o t)) (tp (pst n s o t)) (tv (pst n s o t)) (td (pst n s o t)) (ta (pst n s o t)) (tb (pst n s o t))
  | 0, _ => PI.zero
  | t + 1, h => by
    have := stp_inv (pst_inv ho t (by omega)) ho (by omega) (by omega)
    exact this
theorem pst_congr {o' : Int → Int} : ∀ t : Nat, (∀ i, 0 ≤ i → i < t → o i = o' i) → pst n s o t = pst n s o' t
  | 0, _ => rfl
  | t + 1, h => by rw [pst, pst, pst_congr t (fun i a b => h i a (by omega)), h t (by omega) (by omega)]
end PST
/-- the order of the places; all peaks -/
noncomputable def ordC (n : Int) (s : Int → Int) : Int → Int := Classical.epsilon (fun o => Srt 0 n (bef s) o)
theorem ordC_ok {n : Int} {s : Int → Int} (h0 : 0 ≤ n) (hn : n ≤ 48) (hb : CvB n s) : Srt 0 n (bef s) (ordC n s) := Classical.epsilon_spec (ord_ex h0 hn hb)
noncomputable def pkT (n : Int) (s : Int → Int) : PT := pst n s (ordC n s) n.toNat
noncomputable def pkC (n : Int) (s : Int → Int) : Int := tc (pkT n s)
noncomputable def pkP (n : Int) (s : Int → Int) : Int → Int := tp (pkT n s)
noncomputable def pkV (n : Int) (s : Int → Int) : Int → Int := tv (pkT n s)
noncomputable def pkA (n : Int) (s : Int → Int) : Int → Int := ta (pkT n s)
noncomputable def pkD (n : Int) (s : Int → Int) : Int → Int := fun c => if c = 0 then minF s n.toNat 0 999 else td (pkT n s) c
theorem minF_le {s : Int → Int} : ∀ (d : Nat) (i a : Int), minF s d i a ≤ a ∧ ∀ j, i ≤ j → j < i + d → minF s d i a ≤ s j
  | 0, i, a => ⟨Int.le_refl a, fun j h1 h2 => by omega⟩
  | d + 1, i, a => by
    obtain ⟨g1, g2⟩ := minF_le (s := s) d (i + 1) (min a (s i))
    show minF s d (i + 1) (min a (s i)) ≤ a ∧ ∀ j, i ≤ j → j < i + ((d + 1 : Nat) : Int) → minF s d (i + 1) (min a (s i)) ≤ s j
    refine ⟨by omega, fun j h1 h2 => ?_⟩
    by_cases e : j = i
    · rw [e]; omega
    · exact g2 j (by omega) (by omega)
theorem minF_ge {s : Int → Int} {m : Int} : ∀ (d : Nat) (i a : Int), m ≤ a → (∀ j, i ≤ j → j < i + d → m ≤ s j) → m ≤ minF s d i a
  | 0, i, a, h, _ => h
  | d + 1, i, a, h, g => minF_ge d (i + 1) (min a (s i)) (by have := g i (by omega) (by omega); omega) (fun j h1 h2 => g j (by omega) (by omega))
theorem minF_last {n : Int} {s o : Int → Int} (ho : Srt 0 n (bef s) o) (hb : CvB n s) (h0 : 1 ≤ n) : s (o (n - 1)) = minF s n.toNat 0 999 := by
  have r := ho.1 (n - 1) (by omega) (by omega)
  have b := hb _ r.1 r.2
  have g1 := (minF_le (s := s) n.toNat 0 999).2 (o (n - 1)) r.1 (by omega)
  have g2 := minF_ge (s := s) (m := s (o (n - 1))) n.toNat 0 999 b.2 (fun j a c => by
    obtain ⟨u, u1, u2, u3⟩ := ho.2.2 j a (by omega)
    by_cases e : u = n - 1
    · rw [← u3, e]; omega
    · have := ho.2.1 u (n - 1) u1 (by omega) (by omega)
      rw [u3] at this
      unfold bef at this; omega)
  omega
/-- what is known of all peaks -/
theorem pk_facts {n : Int} {s : Int → Int} (h0 : 1 ≤ n) (hn : n ≤ 48) (hb : CvB n s) :
    (1 ≤ pkC n s ∧ pkC n s ≤ n) ∧ (∀ c, 0 ≤ c → c < pkC n s → (0 ≤ pkP n s c ∧ pkP n s c < n) ∧ (0 ≤ pkD n s c ∧ pkD n s c ≤ 999) ∧ pkD n s c ≤ s (pkP n s c) ∧ (0 ≤ pkP n s c - 1 → s (pkP n s c - 1) ≤ s (pkP n s c)) ∧ (pkP n s c + 1 < n → s (pkP n s c + 1) ≤ s (pkP n s c))) ∧
    (∀ c d, 0 ≤ c → c < pkC n s → 0 ≤ d → d < pkC n s → pkP n s c = pkP n s d → c = d) ∧ (pkA n s 0 = -1 ∧ pkV n s 0 = -1) ∧
    (∀ c, 1 ≤ c → c < pkC n s → (0 ≤ pkA n s c ∧ pkA n s c < c) ∧ (0 ≤ pkV n s c ∧ pkV n s c < n)) := by
  have ho := ordC_ok (by omega) hn hb
  have h : PI n s (ordC n s) ((n.toNat : Nat) : Int) (tc (pkT n s)) (tp (pkT n s)) (tv (pkT n s)) (td (pkT n s)) (ta (pkT n s)) (tb (pkT n s)) := pst_inv ho n.toNat (by omega)
  rw [show ((n.toNat : Nat) : Int) = n by omega] at h
  obtain ⟨⟨ha0, hat⟩, hbb, hc, hd, he, hf, hg, hh, hi, hj, hk⟩ := h
  have all : ∀ q, 0 ≤ q → q < n → tb (pkT n s) q ≠ -1 := fun q a b => (hj q a b).mpr (by
    obtain ⟨u, u1, u2, u3⟩ := ho.2.2 q a b
    exact ⟨u, u1, u2, u3⟩)
  have same : ∀ d : Nat, (d : Int) < n → tb (pkT n s) d = tb (pkT n s) 0 := fun d => by
    induction d with
    | zero => intro _; rfl
    | succ d ih =>
      intro hlt
      rw [← ih (by omega)]
      exact (hc d (by omega) (by omega) (all _ (by omega) (by omega)) (all _ (by omega) (by omega))).symm
  have b0 := hbb 0 (by omega) (by omega)
  have n0 := all 0 (by omega) (by omega)
  have c1 : 1 ≤ tc (pkT n s) := by omega
  have e0 := he 0 (by omega) (by omega)
  have a0 : ta (pkT n s) 0 = -1 := by
    rcases e0.2.2 with q | q
    · exact q
    · omega
  have z0 : tb (pkT n s) 0 = 0 := by
    obtain ⟨-, q, g2, g3, g4⟩ := hf 0 (by omega) (by omega) a0
    have := same q.toNat (by omega)
    rw [show ((q.toNat : Nat) : Int) = q by omega] at this
    rw [← this]; exact g4
  have dead : ∀ c, 1 ≤ c → c < tc (pkT n s) → ta (pkT n s) c ≠ -1 := fun c a b g => by
    obtain ⟨-, q, g2, g3, g4⟩ := hf c (by omega) b g
    have := same q.toNat (by omega)
    rw [show ((q.toNat : Nat) : Int) = q by omega] at this
    omega
  refine ⟨⟨c1, hat⟩, fun c a b => ?_, hi, ⟨a0, (hf 0 (by omega) (by omega) a0).1⟩, fun c a b => ?_⟩
  · have e := he c a b
    refine ⟨e.1, ?_⟩
    have bp := hb _ e.1.1 e.1.2
    have dd : (0 ≤ pkD n s c ∧ pkD n s c ≤ 999) ∧ pkD n s c ≤ s (pkP n s c) := by
      by_cases c0 : c = 0
      · have : pkD n s c = minF s n.toNat 0 999 := if_pos c0
        rw [this]
        have g1 := (minF_le (s := s) n.toNat 0 999)
        have g2 := minF_ge (s := s) (m := 0) n.toNat 0 999 (by omega) (fun j x y => (hb j x (by omega)).1)
        exact ⟨⟨g2, g1.1⟩, g1.2 _ e.1.1 (by show tp (pkT n s) c < 0 + ((n.toNat : Nat) : Int); omega)⟩
      · have : pkD n s c = td (pkT n s) c := if_neg c0
        rw [this]
        obtain ⟨g1, g2, g3⟩ := hh c a b (dead c (by omega) b)
        have := hb _ g1.1 g1.2
        rw [g2]
        exact ⟨this, g3⟩
    exact ⟨dd.1, dd.2, hk c a b⟩
  · have e := he c (by omega) b
    have d := dead c a b
    refine ⟨?_, (hh c (by omega) b d).1⟩
    rcases e.2.2 with q | q
    · exact absurd q d
    · exact q
section LETSM
variable {S : S2} {n z : Int} {s : Int → Int}
theorem letsM_init (hn : n ≤ 48) : ∀ (d N : Nat) (i : Int) (S : S2), 0 ≤ i → i + d = n → d < N → CvM S 8 n s z → (∀ q, 0 ≤ q → q < i → S.1 17 q = -1) → ∃ S', (∀ K, f_X11_lets_7 K N i S = K S') ∧ (∀ q, 0 ≤ q → q < n → S'.1 17 q = -1) ∧ FrM (fun j => j = 17) (fun _ => False) S S' := by
  intro d
  induction d with
  | zero =>
    intro N i S h0 hi hN hc h
    obtain ⟨N, rfl⟩ : ∃ M, N = M + 1 := ⟨N - 1, by omega⟩
    refine ⟨S, fun K => ?_, fun q a b => h q a (by omega), FrM.refl⟩
    rw [f_X11_lets_7]
    simp (disch := omega) only [many_of N hc, gI, uI, cI_of, aI_of, sI_of, mnI_of, mxI_of, abI_of, dvI_of, rmI_of, bI_of, bV_of, rI, rV, rL, rP, rT, rZ_of, rC_of, if_pos, if_neg, if_true, if_false]
  | succ d ih =>
    intro N i S h0 hi hN hc h
    obtain ⟨N, rfl⟩ : ∃ M, N = M + 1 := ⟨N - 1, by omega⟩
    have fr : FrM (fun j => j = 17) (fun _ => False) S (pI S 17 i (-1)) := FrM.refl.wI rfl (by decide)
    obtain ⟨S', e1, e2, e3⟩ := ih N (i + 1) (pI S 17 i (-1)) (by omega) (by omega) (by omega) (hc.keptM fr (by decide) (by decide)) (fun q a b => by
      by_cases w : q = i
      · rw [w, pI_eq]
      · rw [pI_idx w]; exact h q a (by omega))
    refine ⟨S', fun K => ?_, e2, fr.trans e3 (fun _ h => h) (fun _ h => h) (fun _ h => h) (fun _ h => h)⟩
    rw [f_X11_lets_7]
    simp (disch := omega) only [many_of N hc, gI, uI, cI_of, aI_of, sI_of, mnI_of, mxI_of, abI_of, dvI_of, rmI_of, bI_of, bV_of, rI, rV, rL, rP, rT, rZ_of, rC_of, if_pos, if_neg, if_true, if_false]
    exact e1 K
theorem letsM_loop {o : Int → Int} (ho : Srt 0 n (bef s) o) (hb : CvB n s) (h0n : 0 ≤ n) (hn : n ≤ 48) : ∀ (d N t : Nat) (S : S2), (t : Int) + d = n → d + 200 < N → CvM S 8 n s z → MT S n (pst n s o t) → ∃ S', (∀ K x, x = (if (t : Int) < n then o t else -1) → f_X11_lets_36 K N x t S = K S') ∧ MT S' n (pst n s o n.toNat) ∧ FrM letsA letsF S S' := by
  intro d
  induction d with
  | zero =>
    intro N t S ht hN hc hT
    obtain ⟨N, rfl⟩ : ∃ M, N = M + 1 := ⟨N - 1, by omega⟩
    refine ⟨S, fun K x hx => ?_, by rw [show n.toNat = t by omega]; exact hT, FrM.refl⟩
    rw [f_X11_lets_36]
    simp (disch := omega) only [many_of N hc, gI, uI, cI_of, aI_of, sI_of, mnI_of, mxI_of, abI_of, dvI_of, rmI_of, bI_of, bV_of, rI, rV, rL, rP, rT, rZ_of, rC_of, if_pos, if_neg, if_true, if_false]
  | succ d ih =>
    intro N t S ht hN hc hT
    obtain ⟨N, rfl⟩ : ∃ M, N = M + 1 := ⟨N - 1, by omega⟩
    have inv := pst_inv ho t (by omega)
    have r := (inv.now ho (by omega) (by omega)).1
    obtain ⟨⟨i1, i2⟩, i3, -⟩ := inv
    obtain ⟨a, ha⟩ : ∃ a, a = nbr n (pst n s o t) (o t - 1) := ⟨_, rfl⟩
    obtain ⟨b, hb'⟩ : ∃ b, b = nbr n (pst n s o t) (o t + 1) := ⟨_, rfl⟩
    have e1 := belongsAt_of N hc hT h0n hn (q := o t - 1) (by omega) (by omega)
    have e2 := belongsAt_of N hc hT h0n hn (q := o t + 1) (by omega) (by omega)
    rw [← ha] at e1
    rw [← hb'] at e2
    have ba : -1 ≤ a ∧ a < 48 ∧ (a ≠ -1 → a < tc (pst n s o t)) := by
      by_cases q : 0 ≤ o t - 1 ∧ o t - 1 < n
      · rw [nbr_in q.1 q.2] at ha; have := i3 _ q.1 q.2; omega
      · rw [nbr_out q] at ha; omega
    have bb : -1 ≤ b ∧ b < 48 ∧ (b ≠ -1 → b < tc (pst n s o t)) := by
      by_cases q : 0 ≤ o t + 1 ∧ o t + 1 < n
      · rw [nbr_in q.1 q.2] at hb'; have := i3 _ q.1 q.2; omega
      · rw [nbr_out q] at hb'; omega
    -- behind the place that came
    have fin : ∀ S1, MT S1 n (pst n s o (t + 1)) → FrM letsA letsF S S1 → ∃ S', (∀ K, f_X11_lets_125 (f_X11_lets_36 K N) N (o t) t S1 = K S') ∧ MT S' n (pst n s o n.toNat) ∧ FrM letsA letsF S S' := fun S1 hT1 fr => by
      have hc1 := hc.keptM fr (by decide) (by decide)
      obtain ⟨S', f1, f2, f3⟩ := ih N (t + 1) S1 (by omega) (by omega) hc1 hT1
      refine ⟨S', fun K => ?_, f2, fr.trans f3 (fun _ h => h) (fun _ h => h) (fun _ h => h) (fun _ h => h)⟩
      have nx := next_of N ho hc1 hb h0n hn (by omega) (t := t) (by omega) (by omega)
      rw [if_neg (by omega)] at nx
      rw [f_X11_lets_125, nx, bI_of, show ((t : Int) + 1) = ((t + 1 : Nat) : Int) by omega]
      exact f1 K _ rfl
    have step : pst n s o (t + 1) = stp n s (o t) (pst n s o t) := rfl
    by_cases g1 : a = -1 ∧ b = -1
    · obtain ⟨S1, b1, b2, b3⟩ := begins_of N hT hn i1 (by omega) r.1 r.2
      obtain ⟨S', f1, f2, f3⟩ := fin S1 (by rw [step, stp, ← ha, ← hb', if_pos g1]; exact b2) b3
      refine ⟨S', fun K x hx => ?_, f2, f3⟩
      rw [if_pos (by omega)] at hx
      subst hx
      rw [f_X11_lets_36]
      simp (disch := omega) only [many_of N hc, e1, e2, b1, gI, uI, cI_of, aI_of, sI_of, mnI_of, mxI_of, abI_of, dvI_of, rmI_of, bI_of, bV_of, rI, rV, rL, rP, rT, rZ_of, rC_of, if_pos, if_neg, if_true, if_false]
      exact f1 K
    · by_cases g2 : a = -1 ∨ b = -1 ∨ a = b
      · obtain ⟨b2, b3⟩ := grows_of hT (p := o t) (x := if a = -1 then b else a)
        obtain ⟨S', f1, f2, f3⟩ := fin _ (by rw [step, stp, ← ha, ← hb', if_neg g1, if_pos g2]; exact b2) b3
        refine ⟨S', fun K x hx => ?_, f2, f3⟩
        rw [if_pos (by omega)] at hx
        subst hx
        have g97 : ∀ K, f_X11_lets_97 (f_X11_lets_36 K N) N (o t) t a b S = K S' := fun K => by
          rw [f_X11_lets_97]
          by_cases q : a = -1
          · rw [if_pos q] at f1
            simp (disch := omega) only [f_X11_lets_113, gI, uI, cI_of, aI_of, sI_of, mnI_of, mxI_of, abI_of, dvI_of, rmI_of, bI_of, bV_of, rI, rV, rL, rP, rT, rZ_of, rC_of, if_pos, if_neg, if_true, if_false]
            exact f1 K
          · rw [if_neg q] at f1
            simp (disch := omega) only [f_X11_lets_113, gI, uI, cI_of, aI_of, sI_of, mnI_of, mxI_of, abI_of, dvI_of, rmI_of, bI_of, bV_of, rI, rV, rL, rP, rT, rZ_of, rC_of, if_pos, if_neg, if_true, if_false]
            exact f1 K
        have g80 : ∀ K, f_X11_lets_80 (f_X11_lets_36 K N) N (o t) t a b S = K S' := fun K => by
          rw [f_X11_lets_80]
          by_cases q : a = -1
          · simp (disch := omega) only [gI, uI, cI_of, aI_of, sI_of, mnI_of, mxI_of, abI_of, dvI_of, rmI_of, bI_of, bV_of, rI, rV, rL, rP, rT, rZ_of, rC_of, if_pos, if_neg, if_true, if_false]
            exact g97 K
          · by_cases w : b = -1
            · simp (disch := omega) only [gI, uI, cI_of, aI_of, sI_of, mnI_of, mxI_of, abI_of, dvI_of, rmI_of, bI_of, bV_of, rI, rV, rL, rP, rT, rZ_of, rC_of, if_pos, if_neg, if_true, if_false]
              exact g97 K
            · simp (disch := omega) only [gI, uI, cI_of, aI_of, sI_of, mnI_of, mxI_of, abI_of, dvI_of, rmI_of, bI_of, bV_of, rI, rV, rL, rP, rT, rZ_of, rC_of, if_pos, if_neg, if_true, if_false]
              exact g97 K
        rw [f_X11_lets_36]
        by_cases q : a = -1
        · simp (disch := omega) only [many_of N hc, e1, e2, gI, uI, cI_of, aI_of, sI_of, mnI_of, mxI_of, abI_of, dvI_of, rmI_of, bI_of, bV_of, rI, rV, rL, rP, rT, rZ_of, rC_of, if_pos, if_neg, if_true, if_false]
          exact g80 K
        · simp (disch := omega) only [many_of N hc, e1, e2, gI, uI, cI_of, aI_of, sI_of, mnI_of, mxI_of, abI_of, dvI_of, rmI_of, bI_of, bV_of, rI, rV, rL, rP, rT, rZ_of, rC_of, if_pos, if_neg, if_true, if_false]
          exact g80 K
      · obtain ⟨S1, b1, b2, b3⟩ := joins_of N hc hb hT h0n hn (by omega) (by omega) i3 r.1 r.2 (a := a) (b := b) ⟨by omega, by omega⟩ ⟨by omega, by omega⟩ (by omega)
        obtain ⟨S', f1, f2, f3⟩ := fin S1 (by rw [step, stp, ← ha, ← hb', if_neg g1, if_neg g2]; exact b2) b3
        refine ⟨S', fun K x hx => ?_, f2, f3⟩
        rw [if_pos (by omega)] at hx
        subst hx
        rw [f_X11_lets_36]
        simp (disch := omega) only [many_of N hc, e1, e2, f_X11_lets_80, b1, gI, uI, cI_of, aI_of, sI_of, mnI_of, mxI_of, abI_of, dvI_of, rmI_of, bI_of, bV_of, rI, rV, rL, rP, rT, rZ_of, rC_of, if_pos, if_neg, if_true, if_false]
        exact f1 K
/-- the reference's cells hold all peaks -/
def MP0 (S : S2) (n : Int) (s : Int → Int) : Prop := S.1 0 35 = pkC n s ∧ ∀ c, 0 ≤ c → c < pkC n s → S.1 13 c = pkP n s c ∧ S.1 14 c = pkV n s c ∧ S.1 16 c = pkA n s c ∧ S.1 15 c = pkD n s c
theorem letsM_of (N : Nat) (hc : CvM S 8 n s z) (hb : CvB n s) (h0 : 1 ≤ n) (hn : n ≤ 48) (hN : 400 ≤ N) : ∃ S', f_X11_lets N S = some S' ∧ MP0 S' n s ∧ FrM letsA letsF S S' := by
  have ho := ordC_ok (by omega) hn hb
  have fr0 : FrM letsA letsF S (pI S 0 35 0) := FrM.refl.wF rfl
  obtain ⟨S1, a1, a2, a3⟩ := letsM_init (s := s) (z := z) hn n.toNat N 0 (pI S 0 35 0) (by omega) (by omega) (by omega) (hc.keptM fr0 (by decide) (by decide)) (fun q a b => by omega)
  have fr1 : FrM letsA letsF S S1 := fr0.trans a3 (fun _ h => h) (fun j h => by have h : j = 17 := h; show 13 ≤ j ∧ j ≤ 17; omega) (fun _ h => h) (fun _ h => h.elim)
  have hc1 := hc.keptM fr1 (by decide) (by decide)
  have hT0 : MT S1 n (pst n s (ordC n s) 0) := ⟨by rw [a3.2.2 35 (fun h => h), pI_eq]; rfl, fun c x y => by have y : c < 0 := y; omega, a2⟩
  have nx := next_of N ho hc1 hb (by omega) hn (by omega) (t := -1) (by omega) (by omega)
  rw [if_pos rfl, if_pos (by omega), show (-1 : Int) + 1 = 0 by omega] at nx
  obtain ⟨S2, b1, b2, b3⟩ := letsM_loop (z := z) ho hb (by omega) hn n.toNat N 0 S1 (by omega) (by omega) hc1 hT0
  have hc2 := hc1.keptM b3 (by decide) (by decide)
  refine ⟨pI S2 15 0 (minF s n.toNat 0 999), ?_, ⟨?_, fun c x y => ?_⟩, (fr1.trans b3 (fun _ h => h) (fun _ h => h) (fun _ h => h) (fun _ h => h)).wI (by decide) (by decide)⟩
  · have e := b1 (f_X11_lets_137 N) (ordC n s 0) (by rw [if_pos (by show (0 : Int) < n; omega)]; rfl)
    unfold f_X11_lets
    simp (disch := omega) only [gI, uI, cI_of, aI_of, sI_of, mnI_of, mxI_of, abI_of, dvI_of, rmI_of, bI_of, bV_of, rI, rV, rL, rP, rT, rZ_of, rC_of, if_pos, if_neg, if_true, if_false]
    rw [a1]
    simp (disch := omega) only [f_X11_lets_28, nx, gI, uI, cI_of, aI_of, sI_of, mnI_of, mxI_of, abI_of, dvI_of, rmI_of, bI_of, bV_of, rI, rV, rL, rP, rT, rZ_of, rC_of, if_pos, if_neg, if_true, if_false]
    rw [show ((0 : Nat) : Int) = 0 from rfl] at e
    rw [e]
    simp (disch := omega) only [f_X11_lets_137, leastM_of N hc2 hb h0 hn (by omega), gI, uI, cI_of, aI_of, sI_of, mnI_of, mxI_of, abI_of, dvI_of, rmI_of, bI_of, bV_of, rI, rV, rL, rP, rT, rZ_of, rC_of, if_pos, if_neg, if_true, if_false]
  · rw [pI_cell (by decide)]; exact b2.1
  · have h := b2.2.1 c x y
    rw [pI_cell (by decide), pI_cell (by decide), pI_cell (by decide)]
    refine ⟨h.1, h.2.1, h.2.2.1, ?_⟩
    by_cases e : c = 0
    · subst e; rw [pI_eq]; exact (if_pos rfl).symm
    · rw [pI_idx e, h.2.2.2 (by have := (pk_facts h0 hn hb).2.2.2.2 c (by omega) y; show pkA n s c ≠ -1; omega)]; exact (if_neg e).symm
end LETSM
