/-! peak: rows for each what -/
theorem pkC_0 {N : Nat} {S : S2} {a : Int} (h0 : 0 ≤ a) (h1 : a < S.1 6 0) (h2 : S.1 6 0 ≤ 48) : f_X10_peak N S a 0 = bI (f_X5_placeOf N S 6 a) fun v S => rP v S := by
  unfold f_X10_peak
  simp (disch := omega) only [gI, cI_of, if_neg, if_pos, if_true, if_false]
theorem pkM_0 {N : Nat} {S0 S : S2} {a w : Int} (hS : pI S0 0 0 0 = S) (e00 : S.1 0 0 = 0) (e18 : S.1 18 a = w) (h0 : 0 ≤ a) (h1 : a < 48) : f_X11_peak_24 N a 0 0 S0 = aI S 13 48 w fun v => rI v S := by
  unfold f_X11_peak_24
  simp (disch := omega) only [uI, gI, hS, e00, e18, aI_of, cI_of, if_neg, if_pos, if_true, if_false]
theorem pkC_1 {N : Nat} {S : S2} {a : Int} (h0 : 0 ≤ a) (h1 : a < S.1 6 0) (h2 : S.1 6 0 ≤ 48) : f_X10_peak N S a 1 = bI (f_X5_heightOf N S 6 a) fun v S => rP v S := by
  unfold f_X10_peak
  simp (disch := omega) only [gI, cI_of, if_neg, if_pos, if_true, if_false]
theorem pkM_1 {N : Nat} {S0 S : S2} {a w : Int} (hS : pI S0 0 0 0 = S) (e00 : S.1 0 0 = 0) (e18 : S.1 18 a = w) (h0 : 0 ≤ a) (h1 : a < 48) : f_X11_peak_24 N a 1 0 S0 = bI (f_X11_height N S a) fun v S => rI v S := by
  unfold f_X11_peak_24
  simp (disch := omega) only [uI, gI, hS, e00, e18, aI_of, cI_of, if_neg, if_pos, if_true, if_false]
theorem pkC_2 {N : Nat} {S : S2} {a : Int} (h0 : 0 ≤ a) (h1 : a < S.1 6 0) (h2 : S.1 6 0 ≤ 48) : f_X10_peak N S a 2 = bI (f_X5_valleyOf N S 6 a) fun v S => rP v S := by
  unfold f_X10_peak
  simp (disch := omega) only [gI, cI_of, if_neg, if_pos, if_true, if_false]
theorem pkM_2 {N : Nat} {S0 S : S2} {a w : Int} (hS : pI S0 0 0 0 = S) (e00 : S.1 0 0 = 0) (e18 : S.1 18 a = w) (h0 : 0 ≤ a) (h1 : a < 48) : f_X11_peak_24 N a 2 0 S0 = aI S 14 48 w fun v => rI v S := by
  unfold f_X11_peak_24
  simp (disch := omega) only [uI, gI, hS, e00, e18, aI_of, cI_of, if_neg, if_pos, if_true, if_false]
theorem pkC_3 {N : Nat} {S : S2} {a : Int} (h0 : 0 ≤ a) (h1 : a < S.1 6 0) (h2 : S.1 6 0 ≤ 48) : f_X10_peak N S a 3 = bI (f_X5_deathOf N S 6 a) fun v S => rP v S := by
  unfold f_X10_peak
  simp (disch := omega) only [gI, cI_of, if_neg, if_pos, if_true, if_false]
theorem pkM_3 {N : Nat} {S0 S : S2} {a w : Int} (hS : pI S0 0 0 0 = S) (e00 : S.1 0 0 = 0) (e18 : S.1 18 a = w) (h0 : 0 ≤ a) (h1 : a < 48) : f_X11_peak_24 N a 3 0 S0 = aI S 15 48 w fun v => rI v S := by
  unfold f_X11_peak_24
  simp (disch := omega) only [uI, gI, hS, e00, e18, aI_of, cI_of, if_neg, if_pos, if_true, if_false]
theorem pkC_4 {N : Nat} {S : S2} {a : Int} (h0 : 0 ≤ a) (h1 : a < S.1 6 0) (h2 : S.1 6 0 ≤ 48) : f_X10_peak N S a 4 = bI (f_X5_persistenceOf N S 6 a) fun v S => rP v S := by
  unfold f_X10_peak
  simp (disch := omega) only [gI, cI_of, if_neg, if_pos, if_true, if_false]
theorem pkM_4 {N : Nat} {S0 S : S2} {a w : Int} (hS : pI S0 0 0 0 = S) (e00 : S.1 0 0 = 0) (e18 : S.1 18 a = w) (h0 : 0 ≤ a) (h1 : a < 48) : f_X11_peak_24 N a 4 0 S0 = bI (f_X11_life N S a) fun v S => rI v S := by
  unfold f_X11_peak_24
  simp (disch := omega) only [uI, gI, hS, e00, e18, aI_of, cI_of, if_neg, if_pos, if_true, if_false]
theorem pkC_5 {N : Nat} {S : S2} {a : Int} (h0 : 0 ≤ a) (h1 : a < S.1 6 0) (h2 : S.1 6 0 ≤ 48) : f_X10_peak N S a 5 = bI (f_X5_parentOf N S 6 a) fun v S => rP v S := by
  unfold f_X10_peak
  simp (disch := omega) only [gI, cI_of, if_neg, if_pos, if_true, if_false]
theorem pkM_5 {N : Nat} {S0 S : S2} {a w : Int} (hS : pI S0 0 0 0 = S) (e00 : S.1 0 0 = 0) (e18 : S.1 18 a = w) (h0 : 0 ≤ a) (h1 : a < 48) : f_X11_peak_24 N a 5 0 S0 = aI S 16 48 w fun v => cI v (-1) (if v = (-1) then rI (-1) S else aI S 16 48 w fun v => aI S 19 48 v fun v => rI v S) := by
  unfold f_X11_peak_24
  simp (disch := omega) only [uI, gI, hS, e00, e18, aI_of, cI_of, if_neg, if_pos, if_true, if_false]
theorem pkC_6 {N : Nat} {S : S2} {a : Int} (h0 : 0 ≤ a) (h1 : a < S.1 6 0) (h2 : S.1 6 0 ≤ 48) : f_X10_peak N S a 6 = bI (f_X10_isKept N S a) fun v S => cI v 0 (if v = 0 then rP 0 S else rP 1 S) := by
  unfold f_X10_peak
  simp (disch := omega) only [gI, cI_of, if_neg, if_pos, if_true, if_false]
theorem pkM_6 {N : Nat} {S0 S : S2} {a w : Int} (hS : pI S0 0 0 0 = S) (e00 : S.1 0 0 = 0) (e18 : S.1 18 a = w) (h0 : 0 ≤ a) (h1 : a < 48) : f_X11_peak_24 N a 6 0 S0 = bI (f_X11_isKept N S a) fun v S => cI v 0 (if v = 0 then rI 0 S else rI 1 S) := by
  unfold f_X11_peak_24
  simp (disch := omega) only [uI, gI, hS, e00, e18, aI_of, cI_of, if_neg, if_pos, if_true, if_false]
theorem pkC_7 {N : Nat} {S : S2} {a : Int} (h0 : 0 ≤ a) (h1 : a < S.1 6 0) (h2 : S.1 6 0 ≤ 48) : f_X10_peak N S a 7 = bI (f_X5_generationOf N S 6 a) fun v S => rP v S := by
  unfold f_X10_peak
  simp (disch := omega) only [gI, cI_of, if_neg, if_pos, if_true, if_false]
theorem pkM_7 {N : Nat} {S0 S : S2} {a w : Int} (hS : pI S0 0 0 0 = S) (e00 : S.1 0 0 = 0) (e18 : S.1 18 a = w) (h0 : 0 ≤ a) (h1 : a < 48) : f_X11_peak_24 N a 7 0 S0 = bI (f_X11_generationOf N S a) fun v S => rI v S := by
  unfold f_X11_peak_24
  simp (disch := omega) only [uI, gI, hS, e00, e18, aI_of, cI_of, if_neg, if_pos, if_true, if_false]
theorem pkC_8 {N : Nat} {S : S2} {a : Int} (h0 : 0 ≤ a) (h1 : a < S.1 6 0) (h2 : S.1 6 0 ≤ 48) : f_X10_peak N S a 8 = bI (f_X3_match N S 20 6 0) fun _ S => bI (f_X3_takenBy N S 20 a) fun v S => rP v S := by
  unfold f_X10_peak
  simp (disch := omega) only [gI, cI_of, if_neg, if_pos, if_true, if_false]
theorem pkM_8 {N : Nat} {S0 S : S2} {a w : Int} (hS : pI S0 0 0 0 = S) (e00 : S.1 0 0 = 0) (e18 : S.1 18 a = w) (h0 : 0 ≤ a) (h1 : a < 48) : f_X11_peak_24 N a 8 0 S0 = aI S 20 48 a fun v => rI v S := by
  unfold f_X11_peak_24
  simp (disch := omega) only [uI, gI, hS, e00, e18, aI_of, cI_of, if_neg, if_pos, if_true, if_false]
theorem pkC_n1 {N : Nat} {S : S2} {a b : Int} (ha : inR a) (h : a < 0) : f_X10_peak N S a b = some (none, S) := by
  have h1 := ha.1
  have h2 := ha.2
  unfold f_X10_peak
  rw [cI_of (by omega) (by omega) (by omega) (by omega), if_pos h]; rfl
theorem pkC_n2 {N : Nat} {S : S2} {a b : Int} (ha : inR a) (h : 0 ≤ a) (h0 : 0 ≤ S.1 6 0) (h3 : S.1 6 0 ≤ a) : f_X10_peak N S a b = some (none, S) := by
  have h1 := ha.1
  have h2 := ha.2
  unfold f_X10_peak gI
  rw [cI_of (by omega) (by omega) (by omega) (by omega), if_neg (by omega)]
  dsimp only
  rw [cI_of (by omega) (by omega) (by omega) (by omega), if_pos (by omega)]; rfl
theorem pkC_n3 {N : Nat} {S : S2} {a b : Int} (hb : inR b) (h : 0 ≤ a) (h3 : a < S.1 6 0) (h48 : S.1 6 0 ≤ 48) (h0 : b < 0 ∨ 8 < b) : f_X10_peak N S a b = some (none, S) := by
  have h1 := hb.1
  have h2 := hb.2
  unfold f_X10_peak gI
  rw [cI_of (by omega) (by omega) (by omega) (by omega), if_neg (by omega)]
  dsimp only
  rw [cI_of (by omega) (by omega) (by omega) (by omega), if_neg (by omega), cI_of (by omega) (by omega) (by omega) (by omega)]
  by_cases g : b < 0
  · rw [if_pos g]; rfl
  · rw [if_neg g, cI_of (by omega) (by omega) (by omega) (by omega), if_neg (by omega)]; rfl
