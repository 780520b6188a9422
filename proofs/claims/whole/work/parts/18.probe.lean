theorem cI_of {α : Type} {x y : Int} {a : Option α} (h1 : -2147483648 ≤ x) (h2 : x ≤ 2147483647) (h3 : -2147483648 ≤ y) (h4 : y ≤ 2147483647) : cI x y a = a := if_pos ⟨⟨h1, h2⟩, ⟨h3, h4⟩⟩
theorem aI_of {α : Type} {S : S2} {i : Nat} {n x : Int} {K : Int → Option α} (h1 : 0 ≤ x) (h2 : x < n) : aI S i n x K = K (S.1 i x) := if_pos ⟨h1, h2⟩
theorem mnI_of {α : Type} {x y : Int} {K : Int → Option α} (h1 : -2147483648 ≤ x) (h2 : x ≤ 2147483647) (h3 : -2147483648 ≤ y) (h4 : y ≤ 2147483647) : mnI x y K = K (min x y) := if_pos ⟨⟨h1, h2⟩, ⟨h3, h4⟩⟩
theorem has_eq {N : Nat} {S : S2} {c : Nat} {x : Int} (hx : inR x) (hc : inR (S.1 c 1)) : f_X0_has N S c x = some (if 0 ≤ x ∧ x < S.1 c 1 then 1 else 0, S) := by
  grind [f_X0_has, cI, gI, rZ]
theorem least_loop {S : S2} {c : Nat} (hc : 0 ≤ S.1 c 1 ∧ S.1 c 1 ≤ 48) (hs : ∀ j, 0 ≤ j → j < S.1 c 1 → 0 ≤ S.1 (c + 1) j ∧ S.1 (c + 1) j ≤ 999) : ∀ (n N : Nat) (x1 x2 : Int), 0 ≤ x2 → x2 ≤ S.1 c 1 → S.1 c 1 - x2 = n → n < N → 0 ≤ x1 → x1 ≤ 999 → ∃ r, f_X0_leastSample_6 c N x1 x2 S = some (r, S) ∧ (r = x1 ∨ ∃ j, x2 ≤ j ∧ j < S.1 c 1 ∧ r = S.1 (c + 1) j) ∧ r ≤ x1 ∧ ∀ j, x2 ≤ j → j < S.1 c 1 → r ≤ S.1 (c + 1) j := by
  intro n
  induction n with
  | zero =>
    intro N x1 x2 h0 h1 h2 h3 h4 h5
    obtain ⟨M, rfl⟩ : ∃ M, N = M + 1 := ⟨N - 1, by omega⟩
    refine ⟨x1, ?_, Or.inl rfl, by omega, fun j _ _ => by omega⟩
    simp (disch := omega) only [f_X0_leastSample_6, gI, cI_of, if_pos, rI]
  | succ n ih =>
    intro N x1 x2 h0 h1 h2 h3 h4 h5
    obtain ⟨M, rfl⟩ : ∃ M, N = M + 1 := ⟨N - 1, by omega⟩
    have hb := hs x2 h0 (by omega)
    obtain ⟨r, e, p1, p2, p3⟩ := ih M (min x1 (S.1 (c + 1) x2)) (x2 + 1) (by omega) (by omega) (by omega) (by omega) (by omega) (by omega)
    refine ⟨r, ?_, ?_, by omega, fun j g1 g2 => ?_⟩
    · simp (disch := omega) only [f_X0_leastSample_6, gI, cI_of, if_pos, if_neg, rI, aI_of, mnI_of]
      exact e
    · rcases p1 with p1 | ⟨j, q1, q2, q3⟩
      · by_cases q : x1 ≤ S.1 (c + 1) x2
        · exact Or.inl (by omega)
        · exact Or.inr ⟨x2, by omega, by omega, by omega⟩
      · exact Or.inr ⟨j, by omega, q2, q3⟩
    · by_cases q : j = x2
      · subst q; omega
      · exact p3 j (by omega) g2
