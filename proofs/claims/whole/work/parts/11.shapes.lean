def e0 : Nat → Nat := fun _ => 0
abbrev nM : Nat := 28
def shM : Nat → Sh := fun i => match i with
  | 0 => .inl (11, [(0, 0), (2, 1), (0, 0), (0, 0), (0, 0), (0, 0), (0, 0), (0, 0), (0, 0), (1, 0), (0, 0), (2, 2), (2, 3), (2, 4), (2, 5), (0, 0), (0, 0), (0, 0), (0, 0), (2, 6), (2, 7), (0, 0), (2, 8), (2, 9), (2, 10), (2, 11), (2, 12), (0, 0), (0, 0), (0, 0), (2, 13), (2, 14), (2, 15), (2, 16), (2, 17), (0, 0), (2, 18), (2, 19), (0, 0), (2, 20), (2, 21), (0, 0), (2, 22), (2, 23), (0, 0), (1, 0), (2, 24), (0, 0), (2, 25), (2, 26), (2, 27), (0, 0)])
  | 1 => .inr (0, 400, e0)
  | 2 => .inr (0, 48, e0)
  | 3 => .inr (0, 8, e0)
  | 4 => .inr (0, 8, e0)
  | 5 => .inr (2, 8, e0)
  | 6 => .inr (0, 180, e0)
  | 7 => .inr (0, 5, e0)
  | 8 => .inr (0, 231, e0)
  | 9 => .inr (0, 2, e0)
  | 10 => .inr (0, 8, e0)
  | 11 => .inr (0, 8, e0)
  | 12 => .inr (2, 8, e0)
  | 13 => .inr (0, 48, e0)
  | 14 => .inr (0, 48, e0)
  | 15 => .inr (0, 48, e0)
  | 16 => .inr (0, 48, e0)
  | 17 => .inr (0, 48, e0)
  | 18 => .inr (0, 48, e0)
  | 19 => .inr (0, 48, e0)
  | 20 => .inr (0, 48, e0)
  | 21 => .inr (0, 8, e0)
  | 22 => .inr (0, 48, e0)
  | 23 => .inr (0, 9240, e0)
  | 24 => .inr (0, 231, e0)
  | 25 => .inr (0, 50, e0)
  | 26 => .inr (0, 48, e0)
  | 27 => .inr (0, 40, e0)
  | _ => .inr (0, 0, e0)
theorem shM_0 : shM 0 = .inl (11, [(0, 0), (2, 1), (0, 0), (0, 0), (0, 0), (0, 0), (0, 0), (0, 0), (0, 0), (1, 0), (0, 0), (2, 2), (2, 3), (2, 4), (2, 5), (0, 0), (0, 0), (0, 0), (0, 0), (2, 6), (2, 7), (0, 0), (2, 8), (2, 9), (2, 10), (2, 11), (2, 12), (0, 0), (0, 0), (0, 0), (2, 13), (2, 14), (2, 15), (2, 16), (2, 17), (0, 0), (2, 18), (2, 19), (0, 0), (2, 20), (2, 21), (0, 0), (2, 22), (2, 23), (0, 0), (1, 0), (2, 24), (0, 0), (2, 25), (2, 26), (2, 27), (0, 0)]) := rfl
theorem shM_1 : shM 1 = .inr (0, 400, e0) := rfl
theorem shM_2 : shM 2 = .inr (0, 48, e0) := rfl
theorem shM_3 : shM 3 = .inr (0, 8, e0) := rfl
theorem shM_4 : shM 4 = .inr (0, 8, e0) := rfl
theorem shM_5 : shM 5 = .inr (2, 8, e0) := rfl
theorem shM_6 : shM 6 = .inr (0, 180, e0) := rfl
theorem shM_7 : shM 7 = .inr (0, 5, e0) := rfl
theorem shM_8 : shM 8 = .inr (0, 231, e0) := rfl
theorem shM_9 : shM 9 = .inr (0, 2, e0) := rfl
theorem shM_10 : shM 10 = .inr (0, 8, e0) := rfl
theorem shM_11 : shM 11 = .inr (0, 8, e0) := rfl
theorem shM_12 : shM 12 = .inr (2, 8, e0) := rfl
theorem shM_13 : shM 13 = .inr (0, 48, e0) := rfl
theorem shM_14 : shM 14 = .inr (0, 48, e0) := rfl
theorem shM_15 : shM 15 = .inr (0, 48, e0) := rfl
theorem shM_16 : shM 16 = .inr (0, 48, e0) := rfl
theorem shM_17 : shM 17 = .inr (0, 48, e0) := rfl
theorem shM_18 : shM 18 = .inr (0, 48, e0) := rfl
theorem shM_19 : shM 19 = .inr (0, 48, e0) := rfl
theorem shM_20 : shM 20 = .inr (0, 48, e0) := rfl
theorem shM_21 : shM 21 = .inr (0, 8, e0) := rfl
theorem shM_22 : shM 22 = .inr (0, 48, e0) := rfl
theorem shM_23 : shM 23 = .inr (0, 9240, e0) := rfl
theorem shM_24 : shM 24 = .inr (0, 231, e0) := rfl
theorem shM_25 : shM 25 = .inr (0, 50, e0) := rfl
theorem shM_26 : shM 26 = .inr (0, 48, e0) := rfl
theorem shM_27 : shM 27 = .inr (0, 40, e0) := rfl
theorem ltM_0 : 0 < nM := by decide
theorem ltM_1 : 1 < nM := by decide
theorem ltM_2 : 2 < nM := by decide
theorem ltM_3 : 3 < nM := by decide
theorem ltM_4 : 4 < nM := by decide
theorem ltM_5 : 5 < nM := by decide
theorem ltM_6 : 6 < nM := by decide
theorem ltM_7 : 7 < nM := by decide
theorem ltM_8 : 8 < nM := by decide
theorem ltM_9 : 9 < nM := by decide
theorem ltM_10 : 10 < nM := by decide
theorem ltM_11 : 11 < nM := by decide
theorem ltM_12 : 12 < nM := by decide
theorem ltM_13 : 13 < nM := by decide
theorem ltM_14 : 14 < nM := by decide
theorem ltM_15 : 15 < nM := by decide
theorem ltM_16 : 16 < nM := by decide
theorem ltM_17 : 17 < nM := by decide
theorem ltM_18 : 18 < nM := by decide
theorem ltM_19 : 19 < nM := by decide
theorem ltM_20 : 20 < nM := by decide
theorem ltM_21 : 21 < nM := by decide
theorem ltM_22 : 22 < nM := by decide
theorem ltM_23 : 23 < nM := by decide
theorem ltM_24 : 24 < nM := by decide
theorem ltM_25 : 25 < nM := by decide
theorem ltM_26 : 26 < nM := by decide
theorem ltM_27 : 27 < nM := by decide
abbrev nC : Nat := 162
def shC : Nat → Sh := fun i => match i with
  | 0 => .inl (10, [(2, 1), (2, 2), (2, 4), (2, 6), (2, 20), (2, 25), (2, 27), (2, 31), (0, 0), (0, 0), (0, 0), (2, 48), (2, 50), (2, 54), (2, 56), (2, 70), (2, 75), (2, 79), (2, 80)])
  | 1 => .inl (6, [(2, 2), (0, 0), (0, 0), (0, 0), (0, 0), (0, 0), (0, 0), (0, 0)])
  | 2 => .inl (9, [(2, 3), (0, 0)])
  | 3 => .inr (1, 400, e0)
  | 4 => .inl (0, [(2, 5), (0, 0), (0, 0)])
  | 5 => .inr (0, 48, e0)
  | 6 => .inl (5, [(0, 0), (0, 0), (2, 7), (2, 8), (2, 9), (2, 10), (2, 11), (2, 12), (2, 13), (2, 14), (2, 15), (2, 16), (2, 17), (2, 18), (2, 19)])
  | 7 => .inr (0, 48, e0)
  | 8 => .inr (0, 48, e0)
  | 9 => .inr (0, 48, e0)
  | 10 => .inr (0, 48, e0)
  | 11 => .inr (0, 48, e0)
  | 12 => .inr (0, 48, e0)
  | 13 => .inr (0, 48, e0)
  | 14 => .inr (0, 48, e0)
  | 15 => .inr (0, 48, e0)
  | 16 => .inr (0, 48, e0)
  | 17 => .inr (0, 48, e0)
  | 18 => .inr (0, 48, e0)
  | 19 => .inr (0, 48, e0)
  | 20 => .inl (3, [(0, 0), (0, 0), (2, 21), (2, 22), (2, 23), (2, 24)])
  | 21 => .inr (0, 8, e0)
  | 22 => .inr (0, 8, e0)
  | 23 => .inr (0, 8, e0)
  | 24 => .inr (1, 48, e0)
  | 25 => .inl (2, [(0, 0), (0, 0), (2, 26)])
  | 26 => .inr (4, 40, (fun j => 82 + 2 * j))
  | 27 => .inl (4, [(0, 0), (0, 0), (2, 28), (2, 29), (2, 30)])
  | 28 => .inr (0, 100, e0)
  | 29 => .inr (0, 100, e0)
  | 30 => .inr (0, 100, e0)
  | 31 => .inr (3, 4, (fun j => 32 + 4 * j))
  | 32 => .inl (7, [(0, 0), (2, 33), (2, 34), (2, 35)])
  | 33 => .inr (0, 12, e0)
  | 34 => .inr (0, 12, e0)
  | 35 => .inr (0, 12, e0)
  | 36 => .inl (7, [(0, 0), (2, 37), (2, 38), (2, 39)])
  | 37 => .inr (0, 12, e0)
  | 38 => .inr (0, 12, e0)
  | 39 => .inr (0, 12, e0)
  | 40 => .inl (7, [(0, 0), (2, 41), (2, 42), (2, 43)])
  | 41 => .inr (0, 12, e0)
  | 42 => .inr (0, 12, e0)
  | 43 => .inr (0, 12, e0)
  | 44 => .inl (7, [(0, 0), (2, 45), (2, 46), (2, 47)])
  | 45 => .inr (0, 12, e0)
  | 46 => .inr (0, 12, e0)
  | 47 => .inr (0, 12, e0)
  | 48 => .inl (0, [(2, 49), (0, 0), (0, 0)])
  | 49 => .inr (0, 48, e0)
  | 50 => .inl (4, [(0, 0), (0, 0), (2, 51), (2, 52), (2, 53)])
  | 51 => .inr (0, 100, e0)
  | 52 => .inr (0, 100, e0)
  | 53 => .inr (0, 100, e0)
  | 54 => .inl (0, [(2, 55), (0, 0), (0, 0)])
  | 55 => .inr (0, 48, e0)
  | 56 => .inl (5, [(0, 0), (0, 0), (2, 57), (2, 58), (2, 59), (2, 60), (2, 61), (2, 62), (2, 63), (2, 64), (2, 65), (2, 66), (2, 67), (2, 68), (2, 69)])
  | 57 => .inr (0, 48, e0)
  | 58 => .inr (0, 48, e0)
  | 59 => .inr (0, 48, e0)
  | 60 => .inr (0, 48, e0)
  | 61 => .inr (0, 48, e0)
  | 62 => .inr (0, 48, e0)
  | 63 => .inr (0, 48, e0)
  | 64 => .inr (0, 48, e0)
  | 65 => .inr (0, 48, e0)
  | 66 => .inr (0, 48, e0)
  | 67 => .inr (0, 48, e0)
  | 68 => .inr (0, 48, e0)
  | 69 => .inr (0, 48, e0)
  | 70 => .inl (3, [(0, 0), (0, 0), (2, 71), (2, 72), (2, 73), (2, 74)])
  | 71 => .inr (0, 8, e0)
  | 72 => .inr (0, 8, e0)
  | 73 => .inr (0, 8, e0)
  | 74 => .inr (1, 48, e0)
  | 75 => .inl (7, [(0, 0), (2, 76), (2, 77), (2, 78)])
  | 76 => .inr (0, 12, e0)
  | 77 => .inr (0, 12, e0)
  | 78 => .inr (0, 12, e0)
  | 79 => .inl (1, [(1, 0)])
  | 80 => .inl (8, [(2, 81), (0, 0)])
  | 81 => .inr (0, 13, e0)
  | i => if i % 2 = 0 then .inl (0, [(2, i + 1), (0, 0), (0, 0)]) else .inr (0, 48, e0)
def Is0 (c : Nat) : Prop := shC c = .inl (0, [(2, c + 1), (0, 0), (0, 0)]) ∧ c < nC ∧ shC (c + 1) = .inr (0, 48, e0) ∧ c + 1 < nC
theorem is0_s {c : Nat} (h : Is0 c) : shC c = .inl (0, [(2, c + 1), (0, 0), (0, 0)]) := h.1
theorem is0_l {c : Nat} (h : Is0 c) : c < nC := h.2.1
theorem is0_s1 {c : Nat} (h : Is0 c) : shC (c + 1) = .inr (0, 48, e0) := h.2.2.1
theorem is0_l1 {c : Nat} (h : Is0 c) : c + 1 < nC := h.2.2.2
def Is1 (c : Nat) : Prop := shC c = .inl (1, [(1, 0)]) ∧ c < nC
theorem is1_s {c : Nat} (h : Is1 c) : shC c = .inl (1, [(1, 0)]) := h.1
theorem is1_l {c : Nat} (h : Is1 c) : c < nC := h.2
def Is3 (c : Nat) : Prop := shC c = .inl (3, [(0, 0), (0, 0), (2, c + 1), (2, c + 2), (2, c + 3), (2, c + 4)]) ∧ c < nC ∧ shC (c + 1) = .inr (0, 8, e0) ∧ c + 1 < nC ∧ shC (c + 2) = .inr (0, 8, e0) ∧ c + 2 < nC ∧ shC (c + 3) = .inr (0, 8, e0) ∧ c + 3 < nC ∧ shC (c + 4) = .inr (1, 48, e0) ∧ c + 4 < nC
theorem is3_s {c : Nat} (h : Is3 c) : shC c = .inl (3, [(0, 0), (0, 0), (2, c + 1), (2, c + 2), (2, c + 3), (2, c + 4)]) := h.1
theorem is3_l {c : Nat} (h : Is3 c) : c < nC := h.2.1
theorem is3_s1 {c : Nat} (h : Is3 c) : shC (c + 1) = .inr (0, 8, e0) := h.2.2.1
theorem is3_l1 {c : Nat} (h : Is3 c) : c + 1 < nC := h.2.2.2.1
theorem is3_s2 {c : Nat} (h : Is3 c) : shC (c + 2) = .inr (0, 8, e0) := h.2.2.2.2.1
theorem is3_l2 {c : Nat} (h : Is3 c) : c + 2 < nC := h.2.2.2.2.2.1
theorem is3_s3 {c : Nat} (h : Is3 c) : shC (c + 3) = .inr (0, 8, e0) := h.2.2.2.2.2.2.1
theorem is3_l3 {c : Nat} (h : Is3 c) : c + 3 < nC := h.2.2.2.2.2.2.2.1
theorem is3_s4 {c : Nat} (h : Is3 c) : shC (c + 4) = .inr (1, 48, e0) := h.2.2.2.2.2.2.2.2.1
theorem is3_l4 {c : Nat} (h : Is3 c) : c + 4 < nC := h.2.2.2.2.2.2.2.2.2
def Is4 (c : Nat) : Prop := shC c = .inl (4, [(0, 0), (0, 0), (2, c + 1), (2, c + 2), (2, c + 3)]) ∧ c < nC ∧ shC (c + 1) = .inr (0, 100, e0) ∧ c + 1 < nC ∧ shC (c + 2) = .inr (0, 100, e0) ∧ c + 2 < nC ∧ shC (c + 3) = .inr (0, 100, e0) ∧ c + 3 < nC
theorem is4_s {c : Nat} (h : Is4 c) : shC c = .inl (4, [(0, 0), (0, 0), (2, c + 1), (2, c + 2), (2, c + 3)]) := h.1
theorem is4_l {c : Nat} (h : Is4 c) : c < nC := h.2.1
theorem is4_s1 {c : Nat} (h : Is4 c) : shC (c + 1) = .inr (0, 100, e0) := h.2.2.1
theorem is4_l1 {c : Nat} (h : Is4 c) : c + 1 < nC := h.2.2.2.1
theorem is4_s2 {c : Nat} (h : Is4 c) : shC (c + 2) = .inr (0, 100, e0) := h.2.2.2.2.1
theorem is4_l2 {c : Nat} (h : Is4 c) : c + 2 < nC := h.2.2.2.2.2.1
theorem is4_s3 {c : Nat} (h : Is4 c) : shC (c + 3) = .inr (0, 100, e0) := h.2.2.2.2.2.2.1
theorem is4_l3 {c : Nat} (h : Is4 c) : c + 3 < nC := h.2.2.2.2.2.2.2
def Is5 (c : Nat) : Prop := shC c = .inl (5, [(0, 0), (0, 0), (2, c + 1), (2, c + 2), (2, c + 3), (2, c + 4), (2, c + 5), (2, c + 6), (2, c + 7), (2, c + 8), (2, c + 9), (2, c + 10), (2, c + 11), (2, c + 12), (2, c + 13)]) ∧ c < nC ∧ shC (c + 1) = .inr (0, 48, e0) ∧ c + 1 < nC ∧ shC (c + 2) = .inr (0, 48, e0) ∧ c + 2 < nC ∧ shC (c + 3) = .inr (0, 48, e0) ∧ c + 3 < nC ∧ shC (c + 4) = .inr (0, 48, e0) ∧ c + 4 < nC ∧ shC (c + 5) = .inr (0, 48, e0) ∧ c + 5 < nC ∧ shC (c + 6) = .inr (0, 48, e0) ∧ c + 6 < nC ∧ shC (c + 7) = .inr (0, 48, e0) ∧ c + 7 < nC ∧ shC (c + 8) = .inr (0, 48, e0) ∧ c + 8 < nC ∧ shC (c + 9) = .inr (0, 48, e0) ∧ c + 9 < nC ∧ shC (c + 10) = .inr (0, 48, e0) ∧ c + 10 < nC ∧ shC (c + 11) = .inr (0, 48, e0) ∧ c + 11 < nC ∧ shC (c + 12) = .inr (0, 48, e0) ∧ c + 12 < nC ∧ shC (c + 13) = .inr (0, 48, e0) ∧ c + 13 < nC
theorem is5_s {c : Nat} (h : Is5 c) : shC c = .inl (5, [(0, 0), (0, 0), (2, c + 1), (2, c + 2), (2, c + 3), (2, c + 4), (2, c + 5), (2, c + 6), (2, c + 7), (2, c + 8), (2, c + 9), (2, c + 10), (2, c + 11), (2, c + 12), (2, c + 13)]) := h.1
theorem is5_l {c : Nat} (h : Is5 c) : c < nC := h.2.1
theorem is5_s1 {c : Nat} (h : Is5 c) : shC (c + 1) = .inr (0, 48, e0) := h.2.2.1
theorem is5_l1 {c : Nat} (h : Is5 c) : c + 1 < nC := h.2.2.2.1
theorem is5_s2 {c : Nat} (h : Is5 c) : shC (c + 2) = .inr (0, 48, e0) := h.2.2.2.2.1
theorem is5_l2 {c : Nat} (h : Is5 c) : c + 2 < nC := h.2.2.2.2.2.1
theorem is5_s3 {c : Nat} (h : Is5 c) : shC (c + 3) = .inr (0, 48, e0) := h.2.2.2.2.2.2.1
theorem is5_l3 {c : Nat} (h : Is5 c) : c + 3 < nC := h.2.2.2.2.2.2.2.1
theorem is5_s4 {c : Nat} (h : Is5 c) : shC (c + 4) = .inr (0, 48, e0) := h.2.2.2.2.2.2.2.2.1
theorem is5_l4 {c : Nat} (h : Is5 c) : c + 4 < nC := h.2.2.2.2.2.2.2.2.2.1
theorem is5_s5 {c : Nat} (h : Is5 c) : shC (c + 5) = .inr (0, 48, e0) := h.2.2.2.2.2.2.2.2.2.2.1
theorem is5_l5 {c : Nat} (h : Is5 c) : c + 5 < nC := h.2.2.2.2.2.2.2.2.2.2.2.1
theorem is5_s6 {c : Nat} (h : Is5 c) : shC (c + 6) = .inr (0, 48, e0) := h.2.2.2.2.2.2.2.2.2.2.2.2.1
theorem is5_l6 {c : Nat} (h : Is5 c) : c + 6 < nC := h.2.2.2.2.2.2.2.2.2.2.2.2.2.1
theorem is5_s7 {c : Nat} (h : Is5 c) : shC (c + 7) = .inr (0, 48, e0) := h.2.2.2.2.2.2.2.2.2.2.2.2.2.2.1
theorem is5_l7 {c : Nat} (h : Is5 c) : c + 7 < nC := h.2.2.2.2.2.2.2.2.2.2.2.2.2.2.2.1
theorem is5_s8 {c : Nat} (h : Is5 c) : shC (c + 8) = .inr (0, 48, e0) := h.2.2.2.2.2.2.2.2.2.2.2.2.2.2.2.2.1
theorem is5_l8 {c : Nat} (h : Is5 c) : c + 8 < nC := h.2.2.2.2.2.2.2.2.2.2.2.2.2.2.2.2.2.1
theorem is5_s9 {c : Nat} (h : Is5 c) : shC (c + 9) = .inr (0, 48, e0) := h.2.2.2.2.2.2.2.2.2.2.2.2.2.2.2.2.2.2.1
theorem is5_l9 {c : Nat} (h : Is5 c) : c + 9 < nC := h.2.2.2.2.2.2.2.2.2.2.2.2.2.2.2.2.2.2.2.1
theorem is5_s10 {c : Nat} (h : Is5 c) : shC (c + 10) = .inr (0, 48, e0) := h.2.2.2.2.2.2.2.2.2.2.2.2.2.2.2.2.2.2.2.2.1
theorem is5_l10 {c : Nat} (h : Is5 c) : c + 10 < nC := h.2.2.2.2.2.2.2.2.2.2.2.2.2.2.2.2.2.2.2.2.2.1
theorem is5_s11 {c : Nat} (h : Is5 c) : shC (c + 11) = .inr (0, 48, e0) := h.2.2.2.2.2.2.2.2.2.2.2.2.2.2.2.2.2.2.2.2.2.2.1
theorem is5_l11 {c : Nat} (h : Is5 c) : c + 11 < nC := h.2.2.2.2.2.2.2.2.2.2.2.2.2.2.2.2.2.2.2.2.2.2.2.1
theorem is5_s12 {c : Nat} (h : Is5 c) : shC (c + 12) = .inr (0, 48, e0) := h.2.2.2.2.2.2.2.2.2.2.2.2.2.2.2.2.2.2.2.2.2.2.2.2.1
theorem is5_l12 {c : Nat} (h : Is5 c) : c + 12 < nC := h.2.2.2.2.2.2.2.2.2.2.2.2.2.2.2.2.2.2.2.2.2.2.2.2.2.1
theorem is5_s13 {c : Nat} (h : Is5 c) : shC (c + 13) = .inr (0, 48, e0) := h.2.2.2.2.2.2.2.2.2.2.2.2.2.2.2.2.2.2.2.2.2.2.2.2.2.2.1
theorem is5_l13 {c : Nat} (h : Is5 c) : c + 13 < nC := h.2.2.2.2.2.2.2.2.2.2.2.2.2.2.2.2.2.2.2.2.2.2.2.2.2.2.2
def Is7 (c : Nat) : Prop := shC c = .inl (7, [(0, 0), (2, c + 1), (2, c + 2), (2, c + 3)]) ∧ c < nC ∧ shC (c + 1) = .inr (0, 12, e0) ∧ c + 1 < nC ∧ shC (c + 2) = .inr (0, 12, e0) ∧ c + 2 < nC ∧ shC (c + 3) = .inr (0, 12, e0) ∧ c + 3 < nC
theorem is7_s {c : Nat} (h : Is7 c) : shC c = .inl (7, [(0, 0), (2, c + 1), (2, c + 2), (2, c + 3)]) := h.1
theorem is7_l {c : Nat} (h : Is7 c) : c < nC := h.2.1
theorem is7_s1 {c : Nat} (h : Is7 c) : shC (c + 1) = .inr (0, 12, e0) := h.2.2.1
theorem is7_l1 {c : Nat} (h : Is7 c) : c + 1 < nC := h.2.2.2.1
theorem is7_s2 {c : Nat} (h : Is7 c) : shC (c + 2) = .inr (0, 12, e0) := h.2.2.2.2.1
theorem is7_l2 {c : Nat} (h : Is7 c) : c + 2 < nC := h.2.2.2.2.2.1
theorem is7_s3 {c : Nat} (h : Is7 c) : shC (c + 3) = .inr (0, 12, e0) := h.2.2.2.2.2.2.1
theorem is7_l3 {c : Nat} (h : Is7 c) : c + 3 < nC := h.2.2.2.2.2.2.2
def Is8 (c : Nat) : Prop := shC c = .inl (8, [(2, c + 1), (0, 0)]) ∧ c < nC ∧ shC (c + 1) = .inr (0, 13, e0) ∧ c + 1 < nC
theorem is8_s {c : Nat} (h : Is8 c) : shC c = .inl (8, [(2, c + 1), (0, 0)]) := h.1
theorem is8_l {c : Nat} (h : Is8 c) : c < nC := h.2.1
theorem is8_s1 {c : Nat} (h : Is8 c) : shC (c + 1) = .inr (0, 13, e0) := h.2.2.1
theorem is8_l1 {c : Nat} (h : Is8 c) : c + 1 < nC := h.2.2.2
def Is9 (c : Nat) : Prop := shC c = .inl (9, [(2, c + 1), (0, 0)]) ∧ c < nC ∧ shC (c + 1) = .inr (1, 400, e0) ∧ c + 1 < nC
theorem is9_s {c : Nat} (h : Is9 c) : shC c = .inl (9, [(2, c + 1), (0, 0)]) := h.1
theorem is9_l {c : Nat} (h : Is9 c) : c < nC := h.2.1
theorem is9_s1 {c : Nat} (h : Is9 c) : shC (c + 1) = .inr (1, 400, e0) := h.2.2.1
theorem is9_l1 {c : Nat} (h : Is9 c) : c + 1 < nC := h.2.2.2
def Is2 (c : Nat) : Prop := shC c = .inl (2, [(0, 0), (0, 0), (2, c + 1)]) ∧ c < nC ∧ shC (c + 1) = .inr (4, 40, (fun j => 82 + 2 * j)) ∧ c + 1 < nC
theorem is2_s {c : Nat} (h : Is2 c) : shC c = .inl (2, [(0, 0), (0, 0), (2, c + 1)]) := h.1
theorem is2_l {c : Nat} (h : Is2 c) : c < nC := h.2.1
theorem is2_s1 {c : Nat} (h : Is2 c) : shC (c + 1) = .inr (4, 40, (fun j => 82 + 2 * j)) := h.2.2.1
theorem is2_l1 {c : Nat} (h : Is2 c) : c + 1 < nC := h.2.2.2
def Is6 (c : Nat) : Prop := shC c = .inl (6, [(2, c + 1), (0, 0), (0, 0), (0, 0), (0, 0), (0, 0), (0, 0), (0, 0)]) ∧ c < nC ∧ Is9 (c + 1)
theorem is6_s {c : Nat} (h : Is6 c) : shC c = .inl (6, [(2, c + 1), (0, 0), (0, 0), (0, 0), (0, 0), (0, 0), (0, 0), (0, 0)]) := h.1
theorem is6_l {c : Nat} (h : Is6 c) : c < nC := h.2.1
theorem is6_o1 {c : Nat} (h : Is6 c) : Is9 (c + 1) := h.2.2
theorem is0_at4 : Is0 4 := ⟨rfl, (by decide), rfl, (by decide)⟩
theorem is0_at48 : Is0 48 := ⟨rfl, (by decide), rfl, (by decide)⟩
theorem is0_at54 : Is0 54 := ⟨rfl, (by decide), rfl, (by decide)⟩
theorem is1_at79 : Is1 79 := ⟨rfl, (by decide)⟩
theorem is3_at20 : Is3 20 := ⟨rfl, (by decide), rfl, (by decide), rfl, (by decide), rfl, (by decide), rfl, (by decide)⟩
theorem is3_at70 : Is3 70 := ⟨rfl, (by decide), rfl, (by decide), rfl, (by decide), rfl, (by decide), rfl, (by decide)⟩
theorem is4_at27 : Is4 27 := ⟨rfl, (by decide), rfl, (by decide), rfl, (by decide), rfl, (by decide)⟩
theorem is4_at50 : Is4 50 := ⟨rfl, (by decide), rfl, (by decide), rfl, (by decide), rfl, (by decide)⟩
theorem is5_at6 : Is5 6 := ⟨rfl, (by decide), rfl, (by decide), rfl, (by decide), rfl, (by decide), rfl, (by decide), rfl, (by decide), rfl, (by decide), rfl, (by decide), rfl, (by decide), rfl, (by decide), rfl, (by decide), rfl, (by decide), rfl, (by decide), rfl, (by decide)⟩
theorem is5_at56 : Is5 56 := ⟨rfl, (by decide), rfl, (by decide), rfl, (by decide), rfl, (by decide), rfl, (by decide), rfl, (by decide), rfl, (by decide), rfl, (by decide), rfl, (by decide), rfl, (by decide), rfl, (by decide), rfl, (by decide), rfl, (by decide), rfl, (by decide)⟩
theorem is7_at75 : Is7 75 := ⟨rfl, (by decide), rfl, (by decide), rfl, (by decide), rfl, (by decide)⟩
theorem is8_at80 : Is8 80 := ⟨rfl, (by decide), rfl, (by decide)⟩
theorem is9_at2 : Is9 2 := ⟨rfl, (by decide), rfl, (by decide)⟩
theorem is2_at25 : Is2 25 := ⟨rfl, (by decide), rfl, (by decide)⟩
theorem is6_at1 : Is6 1 := ⟨rfl, (by decide), is9_at2⟩
theorem is7_el {j : Nat} (h : j < 4) : Is7 ((fun j => 32 + 4 * j) j) := by
  match j, h with
  | 0, _ => exact ⟨rfl, (by decide), rfl, (by decide), rfl, (by decide), rfl, (by decide)⟩
  | 1, _ => exact ⟨rfl, (by decide), rfl, (by decide), rfl, (by decide), rfl, (by decide)⟩
  | 2, _ => exact ⟨rfl, (by decide), rfl, (by decide), rfl, (by decide), rfl, (by decide)⟩
  | 3, _ => exact ⟨rfl, (by decide), rfl, (by decide), rfl, (by decide), rfl, (by decide)⟩
theorem shC_hi {i : Nat} (h : 82 ≤ i) : shC i = if i % 2 = 0 then .inl (0, [(2, i + 1), (0, 0), (0, 0)]) else .inr (0, 48, e0) := by
  unfold shC
  split <;> first | (exfalso; omega) | rfl
theorem is0_el {j : Nat} (h : j < 40) : Is0 ((fun j => 82 + 2 * j) j) := by
  refine ⟨?_, by show 82 + 2 * j < 162; omega, ?_, by show 82 + 2 * j + 1 < 162; omega⟩
  · show shC (82 + 2 * j) = _
    rw [shC_hi (by omega), if_pos (by omega)]
  · show shC (82 + 2 * j + 1) = _
    rw [shC_hi (by omega), if_neg (by omega)]
theorem shC_0 : shC 0 = .inl (10, [(2, 1), (2, 2), (2, 4), (2, 6), (2, 20), (2, 25), (2, 27), (2, 31), (0, 0), (0, 0), (0, 0), (2, 48), (2, 50), (2, 54), (2, 56), (2, 70), (2, 75), (2, 79), (2, 80)]) := rfl
theorem ltC_0 : 0 < nC := by decide
theorem shC_31 : shC 31 = .inr (3, 4, (fun j => 32 + 4 * j)) := rfl
theorem ltC_31 : 31 < nC := by decide
