/-! what holds all along while places come -/
def PI (n : Int) (s o : Int → Int) (t C : Int) (P V D A B : Int → Int) : Prop :=
  (0 ≤ C ∧ C ≤ t) ∧ (∀ q, 0 ≤ q → q < n → -1 ≤ B q ∧ B q < C) ∧ (∀ q, 0 ≤ q → q + 1 < n → B q ≠ -1 → B (q + 1) ≠ -1 → B q = B (q + 1)) ∧
  (∀ q r, 0 ≤ q → q < r → r < n → B q ≠ -1 → B q = B r → ∀ x, q < x → x < r → B x ≠ -1) ∧
  (∀ c, 0 ≤ c → c < C → (0 ≤ P c ∧ P c < n) ∧ B (P c) ≠ -1 ∧ (A c = -1 ∨ (0 ≤ A c ∧ A c < c))) ∧
  (∀ c, 0 ≤ c → c < C → A c = -1 → V c = -1 ∧ ∃ q, 0 ≤ q ∧ q < n ∧ B q = c) ∧
  (∀ q, 0 ≤ q → q < n → B q ≠ -1 → A (B q) = -1) ∧
  (∀ c, 0 ≤ c → c < C → A c ≠ -1 → (0 ≤ V c ∧ V c < n) ∧ D c = s (V c) ∧ s (V c) ≤ s (P c)) ∧
  (∀ c d, 0 ≤ c → c < C → 0 ≤ d → d < C → P c = P d → c = d) ∧
  (∀ q, 0 ≤ q → q < n → (B q ≠ -1 ↔ ∃ u, 0 ≤ u ∧ u < t ∧ o u = q)) ∧
  (∀ c, 0 ≤ c → c < C → (0 ≤ P c - 1 → s (P c - 1) ≤ s (P c)) ∧ (P c + 1 < n → s (P c + 1) ≤ s (P c)))
section INV
variable {n t C : Int} {s o P V D A B : Int → Int}
theorem PI.zero : PI n s o 0 0 P V D A (fun _ => -1) :=
  ⟨⟨by omega, by omega⟩, fun q _ _ => (by decide : (-1 : Int) ≤ -1 ∧ (-1 : Int) < 0), fun q _ _ h => absurd rfl h, fun q r _ _ _ h => absurd rfl h, fun c a b => by omega, fun c a b => by omega, fun q _ _ h => absurd rfl h, fun c a b => by omega, fun c d a b => by omega, fun q _ _ => ⟨fun h => absurd rfl h, fun ⟨u, a, b, _⟩ => by omega⟩, fun c a b => by omega⟩
/-- the place that comes now hasn't come; those that have are no less; those that haven't are no more -/
theorem PI.now (h : PI n s o t C P V D A B) (ho : Srt 0 n (bef s) o) (h0 : 0 ≤ t) (h1 : t < n) : (0 ≤ o t ∧ o t < n) ∧ B (o t) = -1 ∧ (∀ q, 0 ≤ q → q < n → B q ≠ -1 → s (o t) ≤ s q) ∧ (∀ q, 0 ≤ q → q < n → B q = -1 → s q ≤ s (o t)) := by
  obtain ⟨ha, hb, hc, hd, he, hf, hg, hh, hi, hj, hk⟩ := h
  have r := ho.1 t h0 h1
  refine ⟨r, ?_, fun q a b c => ?_, fun q a b c => ?_⟩
  · by_cases g : B (o t) = -1
    · exact g
    · obtain ⟨u, u1, u2, u3⟩ := (hj _ r.1 r.2).mp g
      have := Srt.inj bef_asym ho u1 (by omega) h0 h1 u3
      omega
  · obtain ⟨u, u1, u2, u3⟩ := (hj q a b).mp c
    have := ho.2.1 u t u1 u2 h1
    rw [u3] at this
    unfold bef at this; omega
  · obtain ⟨u, u1, u2, u3⟩ := ho.2.2 q a b
    by_cases w : u < t
    · exact absurd c ((hj q a b).mpr ⟨u, u1, w, u3⟩)
    · by_cases e : u = t
      · rw [← u3, e]; omega
      · have := ho.2.1 t u h0 (by omega) u2
        rw [u3] at this
        unfold bef at this; omega
theorem come_iff {x : Int} (ho : Srt 0 n (bef s) o) (h0 : 0 ≤ t) (h1 : t < n) (hx : x ≠ -1) (hj : ∀ q, 0 ≤ q → q < n → (B q ≠ -1 ↔ ∃ u, 0 ≤ u ∧ u < t ∧ o u = q)) (q : Int) (a : 0 ≤ q) (b : q < n) {B' : Int → Int} (hB' : B' q = -1 ↔ (q ≠ o t ∧ B q = -1)) : (B' q ≠ -1 ↔ ∃ u, 0 ≤ u ∧ u < t + 1 ∧ o u = q) := by
  constructor
  · intro h
    by_cases e : q = o t
    · exact ⟨t, h0, by omega, e.symm⟩
    · obtain ⟨u, u1, u2, u3⟩ := (hj q a b).mp (fun z => h (hB'.mpr ⟨e, z⟩))
      exact ⟨u, u1, by omega, u3⟩
  · rintro ⟨u, u1, u2, u3⟩ z
    obtain ⟨g1, g2⟩ := hB'.mp z
    by_cases e : u = t
    · exact g1 (by rw [← u3, e])
    · exact (hj q a b).mpr ⟨u, u1, by omega, u3⟩ g2
theorem PI.begin (h : PI n s o t C P V D A B) (ho : Srt 0 n (bef s) o) (h0 : 0 ≤ t) (h1 : t < n) (ha1 : 0 ≤ o t - 1 → B (o t - 1) = -1) (hb1 : o t + 1 < n → B (o t + 1) = -1) : PI n s o (t + 1) (C + 1) (upI P C (o t)) (upI V C (-1)) D (upI A C (-1)) (upI B (o t) C) := by
  obtain ⟨⟨r1, r2⟩, np, ge, le⟩ := h.now ho h0 h1
  obtain ⟨⟨ha0, hat⟩, hb, hc, hd, he, hf, hg, hh, hi, hj, hk⟩ := h
  generalize hp : o t = p at *
  refine ⟨⟨by omega, by omega⟩, fun q a b => ?_, fun q a b c d => ?_, fun q r a b c d e x f g => ?_, fun c a b => ?_, fun c a b d => ?_, fun q a b c => ?_, fun c a b d => ?_, fun c d a b e f g => ?_, fun q a b => ?_, fun c a b => ?_⟩
  · by_cases e : q = p
    · rw [e, upI_eq]; omega
    · rw [upI_ne e]; have := hb q a b; omega
  · by_cases e : q = p
    · rw [upI_ne (by omega), e] at d; exact absurd (hb1 (by omega)) d
    · by_cases e2 : q + 1 = p
      · rw [upI_ne e, show q = p - 1 by omega] at c; exact absurd (ha1 (by omega)) c
      · rw [upI_ne e] at c ⊢; rw [upI_ne e2] at d ⊢; exact hc q a b c d
  · by_cases e1 : q = p
    · rw [e1, upI_eq, upI_ne (by omega)] at e; have := hb r (by omega) c; omega
    · by_cases e2 : r = p
      · rw [e2, upI_eq, upI_ne (by omega)] at e; have := hb q a (by omega); omega
      · rw [upI_ne e1] at d e; rw [upI_ne e2] at e
        by_cases e3 : x = p
        · rw [e3, upI_eq]; omega
        · rw [upI_ne e3]; exact hd q r a b c d e x f g
  · by_cases e : c = C
    · rw [e, upI_eq, upI_eq, upI_eq]; exact ⟨⟨r1, r2⟩, by omega, Or.inl rfl⟩
    · rw [upI_ne e, upI_ne (x := c) e]
      have := he c a (by omega)
      rw [upI_ne (fun z => this.2.1 (by rw [z]; exact np))]; exact this
  · by_cases e : c = C
    · rw [e, upI_eq]; exact ⟨rfl, p, r1, r2, upI_eq⟩
    · rw [upI_ne e] at d ⊢
      obtain ⟨g1, q, g2, g3, g4⟩ := hf c a (by omega) d
      exact ⟨g1, q, g2, g3, by rw [upI_ne (fun z => by rw [z, np] at g4; omega)]; exact g4⟩
  · by_cases e : q = p
    · rw [e, upI_eq, upI_eq]
    · rw [upI_ne e] at c ⊢
      have := hb q a b
      rw [upI_ne (by omega)]; exact hg q a b c
  · by_cases e : c = C
    · rw [e, upI_eq] at d; exact absurd rfl d
    · rw [upI_ne e] at d; rw [upI_ne e, upI_ne (x := c) e]; exact hh c a (by omega) d
  · by_cases e1 : c = C <;> by_cases e2 : d = C
    · omega
    · rw [e1, upI_eq, upI_ne e2] at g
      have := he d e (by omega); rw [← g] at this; exact absurd np this.2.1
    · rw [e2, upI_eq, upI_ne e1] at g
      have := he c a (by omega); rw [g] at this; exact absurd np this.2.1
    · rw [upI_ne e1, upI_ne e2] at g; exact hi c d a (by omega) e (by omega) g
  · refine come_iff (x := 0) ho h0 h1 (by decide) hj q a b ?_
    rw [hp]
    by_cases e : q = p
    · rw [e, upI_eq]; exact ⟨fun z => by omega, fun z => absurd rfl z.1⟩
    · rw [upI_ne e]; exact ⟨fun z => ⟨e, z⟩, fun z => z.2⟩
  · by_cases e : c = C
    · rw [e, upI_eq]
      exact ⟨fun z => le _ z (by omega) (ha1 z), fun z => le _ (by omega) z (hb1 z)⟩
    · rw [upI_ne e]; exact hk c a (by omega)
theorem PI.grow {x : Int} (h : PI n s o t C P V D A B) (ho : Srt 0 n (bef s) o) (h0 : 0 ≤ t) (h1 : t < n) (hx : x ≠ -1) (ha1 : 0 ≤ o t - 1 → B (o t - 1) = -1 ∨ B (o t - 1) = x) (hb1 : o t + 1 < n → B (o t + 1) = -1 ∨ B (o t + 1) = x) (hab : (0 ≤ o t - 1 ∧ B (o t - 1) = x) ∨ (o t + 1 < n ∧ B (o t + 1) = x)) : PI n s o (t + 1) C P V D A (upI B (o t) x) := by
  obtain ⟨⟨r1, r2⟩, np, ge, le⟩ := h.now ho h0 h1
  obtain ⟨⟨ha0, hat⟩, hb, hc, hd, he, hf, hg, hh, hi, hj, hk⟩ := h
  generalize hp : o t = p at *
  have hxr : 0 ≤ x ∧ x < C ∧ A x = -1 := by
    rcases hab with ⟨g1, g2⟩ | ⟨g1, g2⟩
    · have k1 := hb (p - 1) g1 (by omega); have k2 := hg (p - 1) g1 (by omega) (by omega); rw [g2] at k2; exact ⟨by omega, by omega, k2⟩
    · have k1 := hb (p + 1) (by omega) g1; have k2 := hg (p + 1) (by omega) g1 (by omega); rw [g2] at k2; exact ⟨by omega, by omega, k2⟩
  -- whoever belongs to x is on a side where x stands
  have right : ∀ r, p < r → r < n → B r = x → ∀ y, p < y → y < r → B y ≠ -1 := fun r a b c y d e => by
    by_cases g : p + 1 < n ∧ B (p + 1) = x
    · by_cases k : y = p + 1
      · rw [k, g.2]; exact hx
      · exact hd (p + 1) r (by omega) (by omega) b (by rw [g.2]; exact hx) (by rw [g.2, c]) y (by omega) e
    · rcases hab with k | k
      · exact absurd np (hd (p - 1) r k.1 (by omega) b (by rw [k.2]; exact hx) (by rw [k.2, c]) p (by omega) a)
      · exact absurd k g
  have left : ∀ q, 0 ≤ q → q < p → B q = x → ∀ y, q < y → y < p → B y ≠ -1 := fun q a b c y d e => by
    by_cases g : 0 ≤ p - 1 ∧ B (p - 1) = x
    · by_cases k : y = p - 1
      · rw [k, g.2]; exact hx
      · exact hd q (p - 1) a (by omega) (by omega) (by rw [c]; exact hx) (by rw [g.2, c]) y d (by omega)
    · rcases hab with k | k
      · exact absurd k g
      · exact absurd np (hd q (p + 1) a (by omega) k.1 (by rw [c]; exact hx) (by rw [k.2, c]) p b (by omega))
  refine ⟨⟨by omega, by omega⟩, fun q a b => ?_, fun q a b c d => ?_, fun q r a b c d e y f g => ?_, fun c a b => ?_, fun c a b d => ?_, fun q a b c => ?_, hh, hi, fun q a b => ?_, hk⟩
  · by_cases e : q = p
    · rw [e, upI_eq]; omega
    · rw [upI_ne e]; exact hb q a b
  · by_cases e : q = p
    · rw [e] at d ⊢
      rw [upI_ne (by omega)] at d
      rw [upI_eq, upI_ne (by omega)]
      rcases hb1 (by omega) with k | k
      · exact absurd k d
      · exact k.symm
    · by_cases e2 : q + 1 = p
      · rw [upI_ne e] at c
        rw [upI_ne e, e2, upI_eq]
        have hq : q = p - 1 := by omega
        rw [hq] at c ⊢
        rcases ha1 (by omega) with k | k
        · exact absurd k c
        · exact k
      · rw [upI_ne e] at c ⊢; rw [upI_ne e2] at d ⊢; exact hc q a b c d
  · by_cases e3 : y = p
    · rw [e3, upI_eq]; exact hx
    · rw [upI_ne e3]
      by_cases e1 : q = p
      · rw [e1, upI_eq, upI_ne (by omega)] at e
        exact right r (by omega) c e.symm y (by omega) g
      · by_cases e2 : r = p
        · rw [e2, upI_eq, upI_ne (by omega)] at e
          exact left q a (by omega) e y f (by omega)
        · rw [upI_ne e1] at d e; rw [upI_ne e2] at e
          exact hd q r a b c d e y f g
  · have := he c a b
    rw [upI_ne (fun z => this.2.1 (by rw [z]; exact np))]; exact this
  · obtain ⟨g1, q, g2, g3, g4⟩ := hf c a b d
    exact ⟨g1, q, g2, g3, by rw [upI_ne (fun z => by rw [z, np] at g4; omega)]; exact g4⟩
  · by_cases e : q = p
    · rw [e, upI_eq]; exact hxr.2.2
    · rw [upI_ne e] at c ⊢; exact hg q a b c
  · refine come_iff (x := 0) ho h0 h1 (by decide) hj q a b ?_
    rw [hp]
    by_cases e : q = p
    · rw [e, upI_eq]; exact ⟨fun z => absurd z hx, fun z => absurd rfl z.1⟩
    · rw [upI_ne e]; exact ⟨fun z => ⟨e, z⟩, fun z => z.2⟩
theorem PI.join (h : PI n s o t C P V D A B) (ho : Srt 0 n (bef s) o) (h0 : 0 ≤ t) (h1 : t < n) (ha1 : 0 ≤ o t - 1) (hb1 : o t + 1 < n) (hA : B (o t - 1) ≠ -1) (hB : B (o t + 1) ≠ -1) (hab : B (o t - 1) ≠ B (o t + 1)) {l g : Int} (hl : l = min (B (o t - 1)) (B (o t + 1))) (hgm : g = max (B (o t - 1)) (B (o t + 1))) : PI n s o (t + 1) C P (upI V g (o t)) (upI D g (s (o t))) (upI A g l) (fun q => if q = o t then l else if B q = g then l else B q) := by
  obtain ⟨⟨r1, r2⟩, np, ge, le⟩ := h.now ho h0 h1
  obtain ⟨⟨ha0, hat⟩, hb, hc, hd, he, hf, hg, hh, hi, hj, hk⟩ := h
  generalize hp : o t = p at *
  have ka := hb (p - 1) ha1 (by omega)
  have kb := hb (p + 1) (by omega) hb1
  have ga := hg (p - 1) ha1 (by omega) hA
  have gb := hg (p + 1) (by omega) hb1 hB
  have hlg : 0 ≤ l ∧ l < g ∧ g < C := by omega
  have gl : A l = -1 := by
    by_cases w : B (p - 1) < B (p + 1)
    · rw [show l = B (p - 1) by omega]; exact ga
    · rw [show l = B (p + 1) by omega]; exact gb
  -- who belongs to the left one lies left of p, to the right one right
  have sideA : ∀ q, 0 ≤ q → q < n → B q = B (p - 1) → q < p := fun q a b c => by
    rcases Int.lt_trichotomy q p with w | w | w
    · exact w
    · rw [w, np] at c; exact absurd c.symm hA
    · exact absurd np (hd (p - 1) q ha1 (by omega) b hA c.symm p (by omega) w)
  have sideB : ∀ q, 0 ≤ q → q < n → B q = B (p + 1) → p < q := fun q a b c => by
    rcases Int.lt_trichotomy q p with w | w | w
    · exact absurd np (hd q (p + 1) a (by omega) hb1 (by rw [c]; exact hB) c p w (by omega))
    · rw [w, np] at c; exact absurd c.symm hB
    · exact w
  have contA : ∀ q, 0 ≤ q → q < n → B q = B (p - 1) → ∀ y, q < y → y < p → B y ≠ -1 := fun q a b c y d e => by
    by_cases k : y = p - 1
    · rw [k]; exact hA
    · exact hd q (p - 1) a (by omega) (by omega) (by rw [c]; exact hA) c y d (by omega)
  have contB : ∀ r, 0 ≤ r → r < n → B r = B (p + 1) → ∀ y, p < y → y < r → B y ≠ -1 := fun r a b c y d e => by
    by_cases k : y = p + 1
    · rw [k]; exact hB
    · exact hd (p + 1) r (by omega) (by omega) b hB c.symm y (by omega) e
  obtain ⟨B', hB'⟩ : ∃ B' : Int → Int, B' = fun q => if q = p then l else if B q = g then l else B q := ⟨_, rfl⟩
  have bp : B' p = l := by rw [hB']; exact if_pos rfl
  have bg : ∀ q, q ≠ p → B q = g → B' q = l := fun q a b => by rw [hB']; show (if q = p then l else if B q = g then l else B q) = l; rw [if_neg a, if_pos b]
  have bo : ∀ q, q ≠ p → B q ≠ g → B' q = B q := fun q a b => by rw [hB']; show (if q = p then l else if B q = g then l else B q) = B q; rw [if_neg a, if_neg b]
  have bn : ∀ q, B' q = -1 ↔ (q ≠ p ∧ B q = -1) := fun q => by
    by_cases e : q = p
    · rw [e, bp]; exact ⟨fun z => by omega, fun z => absurd rfl z.1⟩
    · by_cases w : B q = g
      · rw [bg q e w, w]; exact ⟨fun z => by omega, fun z => by omega⟩
      · rw [bo q e w]; exact ⟨fun z => ⟨e, z⟩, fun z => z.2⟩
  -- B' q = l: p, or of one of both
  have bl : ∀ q, q ≠ p → B' q = l → B q = B (p - 1) ∨ B q = B (p + 1) := fun q a b => by
    by_cases w : B q = g
    · omega
    · rw [bo q a w] at b; omega
  rw [← hB']
  refine ⟨⟨by omega, by omega⟩, fun q a b => ?_, fun q a b c d => ?_, fun q r a b c d e y f k => ?_, fun c a b => ?_, fun c a b d => ?_, fun q a b c => ?_, fun c a b d => ?_, hi, fun q a b => ?_, hk⟩
  · by_cases e : q = p
    · rw [e, bp]; omega
    · by_cases w : B q = g
      · rw [bg q e w]; omega
      · rw [bo q e w]; exact hb q a b
  · have two : ∀ x, x ≠ p → (B x = B (p - 1) ∨ B x = B (p + 1)) → B' x = l := fun x e w => by
      by_cases z : B x = g
      · exact bg x e z
      · rw [bo x e z]; omega
    by_cases e : q = p
    · rw [e, bp, two (p + 1) (by omega) (Or.inr rfl)]
    · by_cases e2 : q + 1 = p
      · rw [e2, bp, show q = p - 1 by omega, two (p - 1) (by omega) (Or.inl rfl)]
      · have c' : B q ≠ -1 := fun z => c ((bn q).mpr ⟨e, z⟩)
        have d' : B (q + 1) ≠ -1 := fun z => d ((bn _).mpr ⟨e2, z⟩)
        have w := hc q a b c' d'
        by_cases z : B q = g
        · rw [bg q e z, bg (q + 1) e2 (by rw [← w]; exact z)]
        · rw [bo q e z, bo (q + 1) e2 (by rw [← w]; exact z)]; exact w
  · intro z
    obtain ⟨z1, z2⟩ := (bn y).mp z
    by_cases e1 : q = p
    · rw [e1, bp] at e
      rcases bl r (by omega) e.symm with w | w
      · have := sideA r (by omega) c w; omega
      · exact contB r (by omega) c w y (by omega) k z2
    · by_cases e2 : r = p
      · rw [e2, bp] at e
        rcases bl q e1 e with w | w
        · exact contA q a (by omega) w y f (by omega) z2
        · have := sideB q a (by omega) w; omega
      · by_cases w : B q = B r
        · exact hd q r a b c (fun u => d ((bn q).mpr ⟨e1, u⟩)) w y f k z2
        · have w1 : B q = B (p - 1) ∨ B q = B (p + 1) := by
            by_cases u : B' q = l
            · exact bl q e1 u
            · by_cases v1 : B q = g
              · exact absurd (bg q e1 v1) u
              · by_cases v2 : B r = g
                · rw [bo q e1 v1, bg r e2 v2] at e; rw [bo q e1 v1] at u; exact absurd e u
                · rw [bo q e1 v1, bo r e2 v2] at e; exact absurd e w
          have w2 : B r = B (p - 1) ∨ B r = B (p + 1) := by
            by_cases v1 : B r = g
            · omega
            · have e' := e
              rw [bo r e2 v1] at e'
              by_cases v2 : B q = g
              · rw [bg q e1 v2] at e'; omega
              · rw [bo q e1 v2] at e'; exact absurd e' w
          rcases w1 with w1 | w1 <;> rcases w2 with w2 | w2
          · exact absurd (w1.trans w2.symm) w
          · have s1 := sideA q a (by omega) w1
            have s2 := sideB r (by omega) c w2
            by_cases v : y < p
            · exact contA q a (by omega) w1 y f v z2
            · exact contB r (by omega) c w2 y (by omega) k z2
          · have s1 := sideB q a (by omega) w1
            have s2 := sideA r (by omega) c w2
            omega
          · exact absurd (w1.trans w2.symm) w
  · have w := he c a b
    refine ⟨w.1, fun z => w.2.1 ((bn _).mp z).2, ?_⟩
    by_cases e : c = g
    · rw [e, upI_eq]; exact Or.inr ⟨hlg.1, hlg.2.1⟩
    · rw [upI_ne e]; exact w.2.2
  · by_cases e : c = g
    · rw [e, upI_eq] at d; omega
    · rw [upI_ne e] at d ⊢
      obtain ⟨g1, q, g2, g3, g4⟩ := hf c a b d
      exact ⟨g1, q, g2, g3, by rw [bo q (fun z => by rw [z, np] at g4; omega) (by omega)]; exact g4⟩
  · by_cases e : q = p
    · rw [e, bp, upI_ne (by omega)]; exact gl
    · by_cases w : B q = g
      · rw [bg q e w, upI_ne (by omega)]; exact gl
      · have c' : B q ≠ -1 := fun z => c ((bn q).mpr ⟨e, z⟩)
        rw [bo q e w, upI_ne w]; exact hg q a b c'
  · by_cases e : c = g
    · rw [e, upI_eq, upI_eq]
      have w := he g (by omega) hlg.2.2
      exact ⟨⟨r1, r2⟩, rfl, ge _ w.1.1 w.1.2 w.2.1⟩
    · rw [upI_ne e] at d; rw [upI_ne e, upI_ne (x := c) e]; exact hh c a b d
  · refine come_iff (x := 0) ho h0 h1 (by decide) hj q a b ?_
    rw [hp]; exact bn q
end INV
