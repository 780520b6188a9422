/-! STAGE B: what the texts f_ do, in whole numbers. Rules for the text's words under their bounds (the bounds as plain hypotheses, for omega). -/
section RULES
variable {α : Type} {S : S2} {i j : Nat} {n x y v : Int}
theorem cI_of {K : Option α} (h1 : -2147483648 ≤ x) (h2 : x ≤ 2147483647) (h3 : -2147483648 ≤ y) (h4 : y ≤ 2147483647) : cI x y K = K := if_pos ⟨⟨h1, h2⟩, h3, h4⟩
theorem aI_of {K : Int → Option α} (h1 : 0 ≤ x) (h2 : x < n) : aI S i n x K = K (S.1 i x) := if_pos ⟨h1, h2⟩
theorem aL_of {K : Int64 → Option α} (h1 : 0 ≤ x) (h2 : x < n) : aL S i n x K = K (S.2 i x) := if_pos ⟨h1, h2⟩
theorem aR_of {K : Nat → Option α} (h1 : 0 ≤ x) (h2 : x < n) : aR n x K = K x.toNat := if_pos ⟨h1, h2⟩
theorem sI_of {K : S2 → Option α} (h1 : 0 ≤ x) (h2 : x < n) : sI S i n x v K = K (pI S i x v) := if_pos ⟨h1, h2⟩
theorem sC_of {K : S2 → Option α} (h1 : 0 ≤ x) (h2 : x < n) (h3 : 0 ≤ v) (h4 : v < 65536) : sC S i n x v K = K (pI S i x v) := if_pos ⟨⟨h1, h2⟩, h3, h4⟩
theorem sL_of {w : Int64} {K : S2 → Option α} (h1 : 0 ≤ x) (h2 : x < n) : sL S i n x w K = K (pL S i x w) := if_pos ⟨h1, h2⟩
theorem uZ_of {k : Int} {K : S2 → Option α} (h : v = 0 ∨ v = 1) : uZ S i k v K = K (pI S i k v) := if_pos h
theorem cpI_of {n0 n1 sp dp m : Int} {K : S2 → Option α} (h1 : 0 ≤ sp) (h2 : 0 ≤ dp) (h3 : 0 ≤ m) (h4 : sp + m ≤ n0) (h5 : dp + m ≤ n1) : cpI S i j n0 n1 sp dp m K = K (pC S i j sp dp m) := if_pos ⟨h1, h2, h3, h4, h5⟩
theorem mxI_of {K : Int → Option α} (h1 : -2147483648 ≤ x) (h2 : x ≤ 2147483647) (h3 : -2147483648 ≤ y) (h4 : y ≤ 2147483647) : mxI x y K = K (max x y) := if_pos ⟨⟨h1, h2⟩, h3, h4⟩
theorem mnI_of {K : Int → Option α} (h1 : -2147483648 ≤ x) (h2 : x ≤ 2147483647) (h3 : -2147483648 ≤ y) (h4 : y ≤ 2147483647) : mnI x y K = K (min x y) := if_pos ⟨⟨h1, h2⟩, h3, h4⟩
theorem abI_of {K : Int → Option α} (h1 : -2147483648 ≤ x) (h2 : x ≤ 2147483647) : abI x K = K (max x (-x)) := if_pos ⟨h1, h2⟩
theorem dvI_of {K : Int → Option α} (h1 : 0 ≤ x) (h2 : x ≤ 2147483647) (h3 : 0 < y) (h4 : y ≤ 2147483647) : dvI x y K = K (x / y) := by
  unfold dvI; rw [if_pos ⟨⟨by omega, h2⟩, h3, h4⟩, if_pos h1]
theorem rmI_of {K : Int → Option α} (h1 : 0 ≤ x) (h2 : x ≤ 2147483647) (h3 : 0 < y) (h4 : y ≤ 2147483647) : rmI x y K = K (x % y) := by
  unfold rmI; rw [if_pos ⟨⟨by omega, h2⟩, h3, h4⟩, if_pos h1]
theorem bI_of {β : Type} {r : β} {K : β → S2 → Option α} : bI (some (r, S)) K = K r S := rfl
theorem bV_of {K : S2 → Option α} : bV (some S) K = K S := rfl
theorem rZ_of (h : v = 0 ∨ v = 1) : rZ v S = some (v, S) := if_pos h
theorem rC_of (h1 : 0 ≤ v) (h2 : v < 65536) : rC v S = some (v, S) := if_pos ⟨h1, h2⟩
end RULES
/-! reads behind writes -/
section READS
variable {S : S2} {i j : Nat} {k x v : Int}
theorem pI_eq : (pI S i k v).1 i k = v := if_pos ⟨rfl, rfl⟩
theorem pI_cell (h : j ≠ i) : (pI S i k v).1 j x = S.1 j x := if_neg (fun q => h q.1)
theorem pI_idx (h : x ≠ k) : (pI S i k v).1 i x = S.1 i x := if_neg (fun q => h q.2)
theorem pI_at : (pI S i k v).1 i x = if x = k then v else S.1 i x := by
  by_cases h : x = k
  · rw [if_pos h, h, pI_eq]
  · rw [if_neg h, pI_idx h]
theorem pI_2 : (pI S i k v).2 = S.2 := rfl
theorem pL_1 {w : Int64} : (pL S i k w).1 = S.1 := rfl
theorem pL_eq {w : Int64} : (pL S i k w).2 i k = w := if_pos ⟨rfl, rfl⟩
theorem pL_cell {w : Int64} (h : j ≠ i) : (pL S i k w).2 j x = S.2 j x := if_neg (fun q => h q.1)
theorem pL_at {w : Int64} : (pL S i k w).2 i x = if x = k then w else S.2 i x := by
  by_cases h : x = k
  · rw [if_pos h, h, pL_eq]
  · rw [if_neg h]; exact if_neg (fun q => h q.2)
theorem pC_cell {d : Nat} {sp dp n : Int} (h : j ≠ d) : (pC S i d sp dp n).1 j x = S.1 j x := if_neg (fun q => h q.1)
theorem pC_in {d : Nat} {sp dp n : Int} (h1 : dp ≤ x) (h2 : x < dp + n) : (pC S i d sp dp n).1 d x = S.1 i (sp + (x - dp)) := if_pos ⟨rfl, h1, h2⟩
theorem pC_2 {d : Nat} {sp dp n : Int} : (pC S i d sp dp n).2 = S.2 := rfl
end READS
/-! a loop that folds d numbers from i on -/
def fld {β : Type} (g : β → Int → β) : Nat → Int → β → β
  | 0, _, a => a
  | d + 1, i, a => fld g d (i + 1) (g a i)
theorem fld_congr {β : Type} {g h : β → Int → β} : ∀ (d : Nat) (i : Int) (a : β), (∀ b j, i ≤ j → j < i + d → g b j = h b j) → fld g d i a = fld h d i a
  | 0, _, _, _ => rfl
  | d + 1, i, a, e => by
    rw [fld, fld, e a i (by omega) (by omega)]
    exact fld_congr d (i + 1) _ (fun b j h1 h2 => e b j (by omega) (by omega))
theorem fld_inv {β : Type} {g : β → Int → β} (P : Int → β → Prop) : ∀ (d : Nat) (i : Int) (a : β), P i a → (∀ j b, i ≤ j → j < i + d → P j b → P (j + 1) (g b j)) → P (i + d) (fld g d i a)
  | 0, i, a, h, _ => by rw [show i + ((0 : Nat) : Int) = i by omega]; exact h
  | d + 1, i, a, h, e => by
    rw [fld, show i + ((d + 1 : Nat) : Int) = (i + 1) + d by omega]
    exact fld_inv P d (i + 1) _ (e i a (by omega) (by omega) h) (fun j b h1 h2 hp => e j b (by omega) (by omega) hp)
theorem fld_last {β : Type} {g : β → Int → β} : ∀ (d : Nat) (i : Int) (a : β), fld g (d + 1) i a = g (fld g d i a) (i + d)
  | 0, i, a => by show g a i = g a (i + ((0 : Nat) : Int)); rw [show i + ((0 : Nat) : Int) = i by omega]
  | d + 1, i, a => by
    rw [fld, fld_last d (i + 1) (g a i), fld, show i + 1 + (d : Int) = i + ((d + 1 : Nat) : Int) by omega]
/-- a curve's samples, all between 0 and 999 -/
def CvB (n : Int) (s : Int → Int) : Prop := ∀ i, 0 ≤ i → i < n → 0 ≤ s i ∧ s i ≤ 999
/-- the class's curve at c: n samples s, the noise z -/
def CvC (S : S2) (c : Nat) (n : Int) (s : Int → Int) (z : Int) : Prop := S.1 c 1 = n ∧ S.1 c 2 = z ∧ ∀ i, 0 ≤ i → i < n → S.1 (c + 1) i = s i
/-- the reference's curve in row m -/
def CvM (S : S2) (m : Nat) (n : Int) (s : Int → Int) (z : Int) : Prop := S.1 m 48 = n ∧ S.1 m 49 = z ∧ ∀ i, 0 ≤ i → i < n → S.1 m i = s i
def minF (s : Int → Int) (d : Nat) (i a : Int) : Int := fld (fun a i => min a (s i)) d i a
def maxF (s : Int → Int) (d : Nat) (i a : Int) : Int := fld (fun a i => max a (s i)) d i a
def sumF (s : Int → Int) (d : Nat) (i a : Int) : Int := fld (fun a i => a + s i) d i a
section CURVE
variable {S : S2} {c : Nat} {n z : Int} {s : Int → Int}
theorem leastSample_loop (hc : CvC S c n s z) (hb : CvB n s) (hn : n ≤ 48) : ∀ (d N : Nat) (i a : Int), 0 ≤ i → i + d = n → d < N → -999 ≤ a → a ≤ 999 → f_X0_leastSample_6 c N a i S = some (minF s d i a, S) := by
  intro d
  induction d with
  | zero =>
    intro N i a h0 hi hN ha1 ha2
    obtain ⟨N, rfl⟩ : ∃ M, N = M + 1 := ⟨N - 1, by omega⟩
    have hcn := hc.1
    rw [f_X0_leastSample_6]
    simp (disch := omega) only [gI, cI_of, if_pos, rI]
    rfl
  | succ d ih =>
    intro N i a h0 hi hN ha1 ha2
    obtain ⟨N, rfl⟩ : ∃ M, N = M + 1 := ⟨N - 1, by omega⟩
    have hcn := hc.1
    have e := hc.2.2 i h0 (by omega)
    have hb1 := hb i h0 (by omega)
    rw [f_X0_leastSample_6]
    simp (disch := omega) only [gI, cI_of, if_neg, aI_of, mnI_of]
    rw [ih N (i + 1) _ (by omega) (by omega) (by omega) (by omega) (by omega), e]
    rfl
end CURVE
