/-! the class's peaks as they come -/
def OW (n : Int) (B ow fi la : Int → Int) : Prop :=
  (∀ q, 0 ≤ q → q < n → B q = -1 → ow q = -1) ∧
  (∀ q, 0 ≤ q → q < n → B q ≠ -1 → (q = 0 ∨ B (q - 1) = -1) → ow q = B q ∧ fi (B q) = q) ∧
  (∀ q, 0 ≤ q → q < n → B q ≠ -1 → (q = n - 1 ∨ B (q + 1) = -1) → ow q = B q ∧ la (B q) = q)
def CT (S : S2) (c0 : Nat) (n : Int) (s : Int → Int) (T : PT) : Prop :=
  S.1 c0 0 = tc T ∧ (∀ c, 0 ≤ c → c < tc T → S.1 (c0 + 5) c = tp T c ∧ S.1 (c0 + 6) c = s (tp T c) ∧ S.1 (c0 + 7) c = tv T c ∧ S.1 (c0 + 9) c = ta T c ∧ (ta T c ≠ -1 → S.1 (c0 + 8) c = td T c)) ∧ OW n (tb T) (S.1 (c0 + 2)) (S.1 (c0 + 3)) (S.1 (c0 + 4))
/-- the cells that find writes: c0 and its rows 2 .. 12 -/
abbrev pkA0 (c0 : Nat) : Nat → Prop := fun j => j = c0 ∨ (c0 + 2 ≤ j ∧ j ≤ c0 + 9)
section ENDS
variable {n : Int} {B : Int → Int}
theorem leftEnd (hc : ∀ q, 0 ≤ q → q + 1 < n → B q ≠ -1 → B (q + 1) ≠ -1 → B q = B (q + 1)) : ∀ (d : Nat) (q : Int), q = d → q < n → B q ≠ -1 → ∃ x, 0 ≤ x ∧ x ≤ q ∧ B x = B q ∧ (x = 0 ∨ B (x - 1) = -1) := by
  intro d
  induction d with
  | zero => intro q h1 h2 h3; exact ⟨q, by omega, by omega, rfl, Or.inl (by omega)⟩
  | succ d ih =>
    intro q h1 h2 h3
    by_cases g : B (q - 1) = -1
    · exact ⟨q, by omega, by omega, rfl, Or.inr g⟩
    · obtain ⟨x, x1, x2, x3, x4⟩ := ih (q - 1) (by omega) (by omega) g
      have := hc (q - 1) (by omega) (by omega) g (by rw [show q - 1 + 1 = q by omega]; exact h3)
      rw [show q - 1 + 1 = q by omega] at this
      exact ⟨x, x1, by omega, x3.trans this, x4⟩
theorem rightEnd (hc : ∀ q, 0 ≤ q → q + 1 < n → B q ≠ -1 → B (q + 1) ≠ -1 → B q = B (q + 1)) : ∀ (d : Nat) (q : Int), q + d = n - 1 → 0 ≤ q → B q ≠ -1 → ∃ y, q ≤ y ∧ y < n ∧ B y = B q ∧ (y = n - 1 ∨ B (y + 1) = -1) := by
  intro d
  induction d with
  | zero => intro q h1 h2 h3; exact ⟨q, by omega, by omega, rfl, Or.inl (by omega)⟩
  | succ d ih =>
    intro q h1 h2 h3
    by_cases g : B (q + 1) = -1
    · exact ⟨q, by omega, by omega, rfl, Or.inr g⟩
    · obtain ⟨y, y1, y2, y3, y4⟩ := ih (q + 1) (by omega) (by omega) g
      have := hc q h2 (by omega) h3 g
      exact ⟨y, by omega, y2, y3.trans this.symm, y4⟩
variable {s o P V D A ow fi la : Int → Int} {t C p : Int}
theorem OW.begin (h : OW n B ow fi la) (hb : ∀ q, 0 ≤ q → q < n → -1 ≤ B q ∧ B q < C) (hC : 0 ≤ C) : OW n (upI B p C) (upI ow p C) (upI fi C p) (upI la C p) := by
  obtain ⟨h1, h2, h3⟩ := h
  refine ⟨fun q a b c => ?_, fun q a b c d => ?_, fun q a b c d => ?_⟩
  · by_cases e : q = p
    · rw [e, upI_eq] at c; omega
    · rw [upI_ne e] at c ⊢; exact h1 q a b c
  · by_cases e : q = p
    · subst e; rw [upI_eq, upI_eq, upI_eq]; exact ⟨rfl, rfl⟩
    · rw [upI_ne e] at c; rw [upI_ne e, upI_ne e]
      have bq := hb q a b
      rw [upI_ne (by omega)]
      refine h2 q a b c (d.imp id (fun z => ?_))
      by_cases e2 : q - 1 = p
      · rw [e2, upI_eq] at z; omega
      · rw [upI_ne e2] at z; exact z
  · by_cases e : q = p
    · subst e; rw [upI_eq, upI_eq, upI_eq]; exact ⟨rfl, rfl⟩
    · rw [upI_ne e] at c; rw [upI_ne e, upI_ne e]
      have bq := hb q a b
      rw [upI_ne (by omega)]
      refine h3 q a b c (d.imp id (fun z => ?_))
      by_cases e2 : q + 1 = p
      · rw [e2, upI_eq] at z; omega
      · rw [upI_ne e2] at z; exact z
/-- p goes to the left one -/
theorem OW.growL (h : OW n B ow fi la) (hd : ∀ q r, 0 ≤ q → q < r → r < n → B q ≠ -1 → B q = B r → ∀ x, q < x → x < r → B x ≠ -1) (h0 : 0 ≤ p - 1) (h1 : p < n) (hp : B p = -1) (ha : B (p - 1) ≠ -1) : OW n (upI B p (B (p - 1))) (upI ow p (B (p - 1))) fi (upI la (B (p - 1)) p) := by
  obtain ⟨g1, g2, g3⟩ := h
  refine ⟨fun q a b c => ?_, fun q a b c d => ?_, fun q a b c d => ?_⟩
  · by_cases e : q = p
    · rw [e, upI_eq] at c; exact absurd c ha
    · rw [upI_ne e] at c ⊢; exact g1 q a b c
  · by_cases e : q = p
    · rcases d with d | d
      · omega
      · rw [e, upI_ne (by omega)] at d; exact absurd d ha
    · rw [upI_ne e] at c; rw [upI_ne e, upI_ne e]
      refine g2 q a b c (d.imp id (fun z => ?_))
      by_cases e2 : q - 1 = p
      · rw [e2, upI_eq] at z; exact absurd z ha
      · rw [upI_ne e2] at z; exact z
  · by_cases e : q = p
    · subst e; rw [upI_eq, upI_eq, upI_eq]; exact ⟨rfl, rfl⟩
    · rw [upI_ne e] at c; rw [upI_ne e, upI_ne e]
      have d' : q = n - 1 ∨ (q + 1 ≠ p ∧ B (q + 1) = -1) := d.imp id (fun z => by
        by_cases e2 : q + 1 = p
        · rw [e2, upI_eq] at z; exact absurd z ha
        · rw [upI_ne e2] at z; exact ⟨e2, z⟩)
      have ne : B q ≠ B (p - 1) := fun w => by
        rcases Int.lt_trichotomy q (p - 1) with k | k | k
        · rcases d' with d' | d'
          · omega
          · by_cases k2 : q + 1 = p - 1
            · rw [k2] at d'; exact ha d'.2
            · exact hd q (p - 1) a k (by omega) c w (q + 1) (by omega) (by omega) d'.2
        · rcases d' with d' | d' <;> omega
        · exact hd (p - 1) q h0 (by omega) b ha w.symm p (by omega) (by omega) hp
      rw [upI_ne ne]
      exact g3 q a b c (d'.imp id (fun z => z.2))
/-- p goes to the right one -/
theorem OW.growR (h : OW n B ow fi la) (hd : ∀ q r, 0 ≤ q → q < r → r < n → B q ≠ -1 → B q = B r → ∀ x, q < x → x < r → B x ≠ -1) (h0 : 0 ≤ p) (h1 : p + 1 < n) (hp : B p = -1) (hb : B (p + 1) ≠ -1) : OW n (upI B p (B (p + 1))) (upI ow p (B (p + 1))) (upI fi (B (p + 1)) p) la := by
  obtain ⟨g1, g2, g3⟩ := h
  refine ⟨fun q a b c => ?_, fun q a b c d => ?_, fun q a b c d => ?_⟩
  · by_cases e : q = p
    · rw [e, upI_eq] at c; exact absurd c hb
    · rw [upI_ne e] at c ⊢; exact g1 q a b c
  · by_cases e : q = p
    · subst e; rw [upI_eq, upI_eq, upI_eq]; exact ⟨rfl, rfl⟩
    · rw [upI_ne e] at c; rw [upI_ne e, upI_ne e]
      have d' : q = 0 ∨ (q - 1 ≠ p ∧ B (q - 1) = -1) := d.imp id (fun z => by
        by_cases e2 : q - 1 = p
        · rw [e2, upI_eq] at z; exact absurd z hb
        · rw [upI_ne e2] at z; exact ⟨e2, z⟩)
      have ne : B q ≠ B (p + 1) := fun w => by
        rcases Int.lt_trichotomy q (p + 1) with k | k | k
        · exact hd q (p + 1) a (by omega) h1 c w p (by omega) (by omega) hp
        · rcases d' with d' | d' <;> omega
        · rcases d' with d' | d'
          · omega
          · by_cases k2 : q - 1 = p + 1
            · rw [k2] at d'; exact hb d'.2
            · exact hd (p + 1) q (by omega) k b hb w.symm (q - 1) (by omega) (by omega) d'.2
      rw [upI_ne ne]
      exact g2 q a b c (d'.imp id (fun z => z.2))
  · by_cases e : q = p
    · rcases d with d | d
      · omega
      · rw [e, upI_ne (by omega)] at d; exact absurd d hb
    · rw [upI_ne e] at c; rw [upI_ne e, upI_ne e]
      refine g3 q a b c (d.imp id (fun z => ?_))
      by_cases e2 : q + 1 = p
      · rw [e2, upI_eq] at z; exact absurd z hb
      · rw [upI_ne e2] at z; exact z
/-- two join at p -/
theorem OW.join (h : OW n B ow fi la) (hc : ∀ q, 0 ≤ q → q + 1 < n → B q ≠ -1 → B (q + 1) ≠ -1 → B q = B (q + 1)) (h0 : 0 ≤ p - 1) (h1 : p + 1 < n) (hp : B p = -1) (ha : B (p - 1) ≠ -1) (hb : B (p + 1) ≠ -1) (hab : B (p - 1) ≠ B (p + 1)) {l g : Int} (hl : l = min (B (p - 1)) (B (p + 1))) (hg : g = max (B (p - 1)) (B (p + 1))) (hl0 : 0 ≤ l) :
    ∃ x y, (0 ≤ x ∧ x < n) ∧ (0 ≤ y ∧ y < n) ∧ fi (B (p - 1)) = x ∧ la (B (p + 1)) = y ∧ OW n (fun q => if q = p then l else if B q = g then l else B q) (upI (upI (upI ow p l) x l) y l) (upI fi l x) (upI la l y) := by
  obtain ⟨g1, g2, g3⟩ := h
  obtain ⟨x, x1, x2, x3, x4⟩ := leftEnd hc (p - 1).toNat (p - 1) (by omega) (by omega) ha
  obtain ⟨y, y1, y2, y3, y4⟩ := rightEnd hc (n - 1 - (p + 1)).toNat (p + 1) (by omega) (by omega) hb
  have fx := g2 x x1 (by omega) (by rw [x3]; exact ha) x4
  have ly := g3 y (by omega) y2 (by rw [y3]; exact hb) y4
  rw [x3] at fx
  rw [y3] at ly
  have fb := g2 (p + 1) (by omega) h1 hb (Or.inr (by rw [show p + 1 - 1 = p by omega]; exact hp))
  have laa := g3 (p - 1) h0 (by omega) ha (Or.inr (by rw [show p - 1 + 1 = p by omega]; exact hp))
  obtain ⟨B', hB'⟩ : ∃ B' : Int → Int, B' = fun q => if q = p then l else if B q = g then l else B q := ⟨_, rfl⟩
  have bp : B' p = l := by rw [hB']; exact if_pos rfl
  have bg : ∀ q, q ≠ p → B q = g → B' q = l := fun q a b => by rw [hB']; show (if q = p then l else if B q = g then l else B q) = l; rw [if_neg a, if_pos b]
  have bo : ∀ q, q ≠ p → B q ≠ g → B' q = B q := fun q a b => by rw [hB']; show (if q = p then l else if B q = g then l else B q) = B q; rw [if_neg a, if_neg b]
  have bn : ∀ q, B' q = -1 → (q ≠ p ∧ B q = -1) := fun q z => by
    by_cases e : q = p
    · rw [e, bp] at z; omega
    · by_cases w : B q = g
      · rw [bg q e w] at z; omega
      · rw [bo q e w] at z; exact ⟨e, z⟩
  have two : ∀ q, q ≠ p → (B q = B (p - 1) ∨ B q = B (p + 1)) → B' q = l := fun q e w => by
    by_cases z : B q = g
    · exact bg q e z
    · rw [bo q e z]; omega
  have oth : ∀ q, q ≠ p → B q ≠ B (p - 1) → B q ≠ B (p + 1) → B' q = B q ∧ B q ≠ l := fun q e w1 w2 => ⟨bo q e (by omega), by omega⟩
  rw [← hB']
  refine ⟨x, y, ⟨x1, by omega⟩, ⟨by omega, y2⟩, fx.2, ly.2, fun q a b c => ?_, fun q a b c d => ?_, fun q a b c d => ?_⟩
  · obtain ⟨z1, z2⟩ := bn q c
    rw [upI_ne (fun w => by rw [w, y3] at z2; exact hb z2), upI_ne (fun w => by rw [w, x3] at z2; exact ha z2), upI_ne z1]
    exact g1 q a b z2
  · by_cases e : q = p
    · rcases d with d | d
      · omega
      · have := (bn _ d).2; rw [e] at this; exact absurd this ha
    · have d' : q = 0 ∨ (q - 1 ≠ p ∧ B (q - 1) = -1) := d.imp id (fun z => bn _ z)
      have c' : B q ≠ -1 := fun z => by
        by_cases w : B q = g
        · omega
        · rw [bo q e w] at c; exact c z
      have k := g2 q a b c' (d'.imp id (fun z => z.2))
      by_cases w1 : B q = B (p - 1)
      · rw [w1] at k
        have qx : q = x := by rw [← k.2, fx.2]
        rw [two q e (Or.inl w1), upI_eq.trans qx.symm]
        refine ⟨?_, rfl⟩
        by_cases z : q = y
        · rw [z, upI_eq]
        · rw [upI_ne z, qx, upI_eq]
      · by_cases w2 : B q = B (p + 1)
        · rw [w2] at k
          have : q = p + 1 := by rw [← k.2, fb.2]
          rcases d' with d' | d'
          · omega
          · omega
        · obtain ⟨u1, u2⟩ := oth q e w1 w2
          rw [u1, upI_ne (fun w => w2 (by rw [w, y3])), upI_ne (fun w => w1 (by rw [w, x3])), upI_ne e, upI_ne u2]
          exact k
  · by_cases e : q = p
    · rcases d with d | d
      · omega
      · have := (bn _ d).2; rw [e] at this; exact absurd this hb
    · have d' : q = n - 1 ∨ (q + 1 ≠ p ∧ B (q + 1) = -1) := d.imp id (fun z => bn _ z)
      have c' : B q ≠ -1 := fun z => by
        by_cases w : B q = g
        · omega
        · rw [bo q e w] at c; exact c z
      have k := g3 q a b c' (d'.imp id (fun z => z.2))
      by_cases w1 : B q = B (p + 1)
      · rw [w1] at k
        have qy : q = y := by rw [← k.2, ly.2]
        rw [two q e (Or.inr w1), upI_eq.trans qy.symm, qy, upI_eq]
        exact ⟨rfl, rfl⟩
      · by_cases w2 : B q = B (p - 1)
        · rw [w2] at k
          have : q = p - 1 := by rw [← k.2, laa.2]
          rcases d' with d' | d'
          · omega
          · omega
        · obtain ⟨u1, u2⟩ := oth q e w2 w1
          rw [u1, upI_ne (fun w => w1 (by rw [w, y3])), upI_ne (fun w => w2 (by rw [w, x3])), upI_ne e, upI_ne u2]
          exact k
end ENDS
