/-! TracePeaks(): its cells as they come, and in the order of the class side -/
abbrev S0 : S2 := (fun _ _ => 0, fun _ _ => 0)
theorem iz0 : iz 0 = 0 := by decide
def fvz (ad : Nat → Nat) : List (Nat × Nat) → List Value
  | [] => []
  | (0, _) :: fs => .int 0 :: fvz ad fs
  | (1, _) :: fs => .long 0 :: fvz ad fs
  | (_ + 2, j) :: fs => .ref (ad j) :: fvz ad fs
theorem fvz_eq (ad : Nat → Nat) (i : Nat) : ∀ (fl : List (Nat × Nat)) (k : Nat), fvs ad S0 i k fl = fvz ad fl
  | [], _ => rfl
  | (0, _) :: fs, k => by rw [fvs, fvz, fvz_eq ad i fs (k + 1)]; show Value.int (iz 0) :: _ = _; rw [iz0]
  | (1, _) :: fs, k => by rw [fvs, fvz, fvz_eq ad i fs (k + 1)]; rfl
  | (t + 2, j) :: fs, k => by rw [fvs, fvz, fvz_eq ad i fs (k + 1)]; rfl
def celz (cA : Nat → ClassId) (ad : Nat → Nat) (sh : Sh) : va_E := match sh with
  | .inl (ci, fl) => .inr (ci, fvz ad fl)
  | .inr (0, len, _) => .inl (cA 0, len, .inl (fun _ => 0))
  | .inr (1, len, _) => .inl (cA 1, len, .inl (fun _ => 0))
  | .inr (2, len, _) => .inl (cA 2, len, .inr (.inl (fun _ => 0)))
  | .inr (k + 3, len, el) => .inl (cA (k + 3), len, .inr (.inr (.inr (.inr (fun j => some (ad (el j)))))))
theorem cel_z (cA : Nat → ClassId) (ad : Nat → Nat) (i : Nat) : ∀ sh : Sh, cel cA ad S0 i sh = celz cA ad sh
  | .inl (ci, fl) => by show Sum.inr (ci, fvs ad S0 i 0 fl) = Sum.inr (ci, fvz ad fl); rw [fvz_eq]
  | .inr (0, len, _) => by show Sum.inl (cA 0, len, Sum.inl (fun _ => iz 0)) = Sum.inl (cA 0, len, Sum.inl (fun _ => 0)); rw [iz0]
  | .inr (1, len, _) => by show Sum.inl (cA 1, len, Sum.inl (fun _ => iz 0)) = Sum.inl (cA 1, len, Sum.inl (fun _ => 0)); rw [iz0]
  | .inr (2, len, _) => rfl
  | .inr (k + 3, len, el) => rfl
def VX (X : XT) (a : Nat) (q : Nat → Nat) (u : Nat → Nat → Nat) : va_W := ((((a, (Sum.inr (10, [.ref (q 0), .ref ((u 0) 0), .ref (q 1), .ref (q 2), .ref (q 3), .ref (q 4), .ref (q 5), .ref (q 6), .int 0, .int 0, .int 0, .ref (q 7), .ref (q 8), .ref (q 9), .ref (q 10), .ref (q 11), .ref (q 12), .ref (q 13), .ref (q 14)]) : va_E)) :: (Fin6 X (q 0) (u 0) ++ Fin0 X (q 1) (u 1) ++ Fin5 X (q 2) (u 2) ++ Fin3 X (q 3) (u 3) ++ Fin2 X (q 4) (u 4) ++ Fin4 X (q 5) (u 5))) ++ [((q 6), (Sum.inl (X.2.1 3, 4, .inr (.inr (.inr (.inr (va_up (va_up (va_up (va_up (fun _ => none) 0 (some (q 15))) 1 (some (q 16))) 2 (some (q 17))) 3 (some (q 18))))))) : va_E))]) ++ (Fin0 X (q 7) (u 6) ++ Fin4 X (q 8) (u 7) ++ Fin0 X (q 9) (u 8) ++ Fin5 X (q 10) (u 9) ++ Fin3 X (q 11) (u 10) ++ Fin7 X (q 12) (u 11) ++ Fin1 X (q 13) (u 12) ++ Fin8 X (q 14) (u 13) ++ Fin7 X (q 15) (u 14) ++ Fin7 X (q 16) (u 15) ++ Fin7 X (q 17) (u 16) ++ Fin7 X (q 18) (u 17)))
def adC (a : Nat) (q : Nat → Nat) (u : Nat → Nat → Nat) : Nat → Nat := fun i => if i < 82 then [a, q 0, u 0 0, u 0 1, q 1, u 1 0, q 2, u 2 0, u 2 1, u 2 2, u 2 3, u 2 4, u 2 5, u 2 6, u 2 7, u 2 8, u 2 9, u 2 10, u 2 11, u 2 12, q 3, u 3 0, u 3 1, u 3 2, u 3 3, q 4, u 4 0, q 5, u 5 0, u 5 1, u 5 2, (q 6), q 15, u 14 0, u 14 1, u 14 2, q 16, u 15 0, u 15 1, u 15 2, q 17, u 16 0, u 16 1, u 16 2, q 18, u 17 0, u 17 1, u 17 2, q 7, u 6 0, q 8, u 7 0, u 7 1, u 7 2, q 9, u 8 0, q 10, u 9 0, u 9 1, u 9 2, u 9 3, u 9 4, u 9 5, u 9 6, u 9 7, u 9 8, u 9 9, u 9 10, u 9 11, u 9 12, q 11, u 10 0, u 10 1, u 10 2, u 10 3, q 12, u 11 0, u 11 1, u 11 2, q 13, q 14, u 13 0].getD i 0 else u 4 (i - 81)
def posC : List Nat := [0, 1, 2, 3, 4, 5, 6, 7, 8, 9, 10, 11, 12, 13, 14, 15, 16, 17, 18, 19, 20, 21, 22, 23, 24, 25, 26, 107, 108, 109, 110, 111, 146, 147, 148, 149, 150, 151, 152, 153, 154, 155, 156, 157, 158, 159, 160, 161, 112, 113, 114, 115, 116, 117, 118, 119, 120, 121, 122, 123, 124, 125, 126, 127, 128, 129, 130, 131, 132, 133, 134, 135, 136, 137, 138, 139, 140, 141, 142, 143, 144, 145, 27, 28, 29, 30, 31, 32, 33, 34, 35, 36, 37, 38, 39, 40, 41, 42, 43, 44, 45, 46, 47, 48, 49, 50, 51, 52, 53, 54, 55, 56, 57, 58, 59, 60, 61, 62, 63, 64, 65, 66, 67, 68, 69, 70, 71, 72, 73, 74, 75, 76, 77, 78, 79, 80, 81, 82, 83, 84, 85, 86, 87, 88, 89, 90, 91, 92, 93, 94, 95, 96, 97, 98, 99, 100, 101, 102, 103, 104, 105, 106]
def idsC : List Nat := [0, 1, 2, 3, 4, 5, 6, 7, 8, 9, 10, 11, 12, 13, 14, 15, 16, 17, 18, 19, 20, 21, 22, 23, 24, 25, 26, 82, 83, 84, 85, 86, 87, 88, 89, 90, 91, 92, 93, 94, 95, 96, 97, 98, 99, 100, 101, 102, 103, 104, 105, 106, 107, 108, 109, 110, 111, 112, 113, 114, 115, 116, 117, 118, 119, 120, 121, 122, 123, 124, 125, 126, 127, 128, 129, 130, 131, 132, 133, 134, 135, 136, 137, 138, 139, 140, 141, 142, 143, 144, 145, 146, 147, 148, 149, 150, 151, 152, 153, 154, 155, 156, 157, 158, 159, 160, 161, 27, 28, 29, 30, 31, 48, 49, 50, 51, 52, 53, 54, 55, 56, 57, 58, 59, 60, 61, 62, 63, 64, 65, 66, 67, 68, 69, 70, 71, 72, 73, 74, 75, 76, 77, 78, 79, 80, 81, 32, 33, 34, 35, 36, 37, 38, 39, 40, 41, 42, 43, 44, 45, 46, 47]
theorem pos_ids : ∀ i, i < 162 → idsC.getD (posC.getD i 0) 0 = i := by decide +kernel
def VL1 (X : XT) (a : Nat) (q : Nat → Nat) (u : Nat → Nat → Nat) : va_W := [(a, .inr (10, [.ref (q 0), .ref ((u 0) 0), .ref (q 1), .ref (q 2), .ref (q 3), .ref (q 4), .ref (q 5), .ref (q 6), .int 0, .int 0, .int 0, .ref (q 7), .ref (q 8), .ref (q 9), .ref (q 10), .ref (q 11), .ref (q 12), .ref (q 13), .ref (q 14)])), (q 0, .inr (6, [.ref (u 0 0), .int 0, .int 0, .int 0, .int 0, .int 0, .int 0, .int 0])), (u 0 0, .inr (9, [.ref (u 0 1), .int 0])), (u 0 1, .inl (X.2.1 1, 400, .inl (fun _ => 0))), (q 1, .inr (0, [.ref (u 1 0), .int 0, .int 0])), (u 1 0, .inl (X.2.1 0, 48, .inl (fun _ => 0))), (q 2, .inr (5, [.int 0, .int 0, .ref (u 2 0), .ref (u 2 1), .ref (u 2 2), .ref (u 2 3), .ref (u 2 4), .ref (u 2 5), .ref (u 2 6), .ref (u 2 7), .ref (u 2 8), .ref (u 2 9), .ref (u 2 10), .ref (u 2 11), .ref (u 2 12)])), (u 2 0, .inl (X.2.1 0, 48, .inl (fun _ => 0))), (u 2 1, .inl (X.2.1 0, 48, .inl (fun _ => 0))), (u 2 2, .inl (X.2.1 0, 48, .inl (fun _ => 0))), (u 2 3, .inl (X.2.1 0, 48, .inl (fun _ => 0))), (u 2 4, .inl (X.2.1 0, 48, .inl (fun _ => 0))), (u 2 5, .inl (X.2.1 0, 48, .inl (fun _ => 0))), (u 2 6, .inl (X.2.1 0, 48, .inl (fun _ => 0))), (u 2 7, .inl (X.2.1 0, 48, .inl (fun _ => 0))), (u 2 8, .inl (X.2.1 0, 48, .inl (fun _ => 0))), (u 2 9, .inl (X.2.1 0, 48, .inl (fun _ => 0))), (u 2 10, .inl (X.2.1 0, 48, .inl (fun _ => 0))), (u 2 11, .inl (X.2.1 0, 48, .inl (fun _ => 0))), (u 2 12, .inl (X.2.1 0, 48, .inl (fun _ => 0))), (q 3, .inr (3, [.int 0, .int 0, .ref (u 3 0), .ref (u 3 1), .ref (u 3 2), .ref (u 3 3)])), (u 3 0, .inl (X.2.1 0, 8, .inl (fun _ => 0))), (u 3 1, .inl (X.2.1 0, 8, .inl (fun _ => 0))), (u 3 2, .inl (X.2.1 0, 8, .inl (fun _ => 0))), (u 3 3, .inl (X.2.1 1, 48, .inl (fun _ => 0))), (q 4, .inr (2, [.int 0, .int 0, .ref (u 4 0)])), (u 4 0, .inl (X.2.1 4, 40, .inr (.inr (.inr (.inr (rowsF (u 4) 40))))))]
def VL2 (X : XT) (a : Nat) (q : Nat → Nat) (u : Nat → Nat → Nat) : va_W := [(q 5, .inr (4, [.int 0, .int 0, .ref (u 5 0), .ref (u 5 1), .ref (u 5 2)])), (u 5 0, .inl (X.2.1 0, 100, .inl (fun _ => 0))), (u 5 1, .inl (X.2.1 0, 100, .inl (fun _ => 0))), (u 5 2, .inl (X.2.1 0, 100, .inl (fun _ => 0))), (q 6, .inl (X.2.1 3, 4, .inr (.inr (.inr (.inr (va_up (va_up (va_up (va_up (fun _ => none) 0 (some (q 15))) 1 (some (q 16))) 2 (some (q 17))) 3 (some (q 18)))))))), (q 7, .inr (0, [.ref (u 6 0), .int 0, .int 0])), (u 6 0, .inl (X.2.1 0, 48, .inl (fun _ => 0))), (q 8, .inr (4, [.int 0, .int 0, .ref (u 7 0), .ref (u 7 1), .ref (u 7 2)])), (u 7 0, .inl (X.2.1 0, 100, .inl (fun _ => 0))), (u 7 1, .inl (X.2.1 0, 100, .inl (fun _ => 0))), (u 7 2, .inl (X.2.1 0, 100, .inl (fun _ => 0))), (q 9, .inr (0, [.ref (u 8 0), .int 0, .int 0])), (u 8 0, .inl (X.2.1 0, 48, .inl (fun _ => 0))), (q 10, .inr (5, [.int 0, .int 0, .ref (u 9 0), .ref (u 9 1), .ref (u 9 2), .ref (u 9 3), .ref (u 9 4), .ref (u 9 5), .ref (u 9 6), .ref (u 9 7), .ref (u 9 8), .ref (u 9 9), .ref (u 9 10), .ref (u 9 11), .ref (u 9 12)])), (u 9 0, .inl (X.2.1 0, 48, .inl (fun _ => 0))), (u 9 1, .inl (X.2.1 0, 48, .inl (fun _ => 0))), (u 9 2, .inl (X.2.1 0, 48, .inl (fun _ => 0))), (u 9 3, .inl (X.2.1 0, 48, .inl (fun _ => 0))), (u 9 4, .inl (X.2.1 0, 48, .inl (fun _ => 0))), (u 9 5, .inl (X.2.1 0, 48, .inl (fun _ => 0))), (u 9 6, .inl (X.2.1 0, 48, .inl (fun _ => 0))), (u 9 7, .inl (X.2.1 0, 48, .inl (fun _ => 0))), (u 9 8, .inl (X.2.1 0, 48, .inl (fun _ => 0))), (u 9 9, .inl (X.2.1 0, 48, .inl (fun _ => 0))), (u 9 10, .inl (X.2.1 0, 48, .inl (fun _ => 0))), (u 9 11, .inl (X.2.1 0, 48, .inl (fun _ => 0))), (u 9 12, .inl (X.2.1 0, 48, .inl (fun _ => 0))), (q 11, .inr (3, [.int 0, .int 0, .ref (u 10 0), .ref (u 10 1), .ref (u 10 2), .ref (u 10 3)])), (u 10 0, .inl (X.2.1 0, 8, .inl (fun _ => 0))), (u 10 1, .inl (X.2.1 0, 8, .inl (fun _ => 0))), (u 10 2, .inl (X.2.1 0, 8, .inl (fun _ => 0))), (u 10 3, .inl (X.2.1 1, 48, .inl (fun _ => 0))), (q 12, .inr (7, [.int 0, .ref (u 11 0), .ref (u 11 1), .ref (u 11 2)])), (u 11 0, .inl (X.2.1 0, 12, .inl (fun _ => 0))), (u 11 1, .inl (X.2.1 0, 12, .inl (fun _ => 0))), (u 11 2, .inl (X.2.1 0, 12, .inl (fun _ => 0))), (q 13, .inr (1, [.long 0])), (q 14, .inr (8, [.ref (u 13 0), .int 0])), (u 13 0, .inl (X.2.1 0, 13, .inl (fun _ => 0))), (q 15, .inr (7, [.int 0, .ref (u 14 0), .ref (u 14 1), .ref (u 14 2)])), (u 14 0, .inl (X.2.1 0, 12, .inl (fun _ => 0))), (u 14 1, .inl (X.2.1 0, 12, .inl (fun _ => 0))), (u 14 2, .inl (X.2.1 0, 12, .inl (fun _ => 0))), (q 16, .inr (7, [.int 0, .ref (u 15 0), .ref (u 15 1), .ref (u 15 2)])), (u 15 0, .inl (X.2.1 0, 12, .inl (fun _ => 0))), (u 15 1, .inl (X.2.1 0, 12, .inl (fun _ => 0))), (u 15 2, .inl (X.2.1 0, 12, .inl (fun _ => 0))), (q 17, .inr (7, [.int 0, .ref (u 16 0), .ref (u 16 1), .ref (u 16 2)])), (u 16 0, .inl (X.2.1 0, 12, .inl (fun _ => 0))), (u 16 1, .inl (X.2.1 0, 12, .inl (fun _ => 0))), (u 16 2, .inl (X.2.1 0, 12, .inl (fun _ => 0))), (q 18, .inr (7, [.int 0, .ref (u 17 0), .ref (u 17 1), .ref (u 17 2)])), (u 17 0, .inl (X.2.1 0, 12, .inl (fun _ => 0))), (u 17 1, .inl (X.2.1 0, 12, .inl (fun _ => 0))), (u 17 2, .inl (X.2.1 0, 12, .inl (fun _ => 0)))]
theorem VX_flat (X : XT) (a : Nat) (q : Nat → Nat) (u : Nat → Nat → Nat) : VX X a q u = VL1 X a q u ++ (curW X (u 4) 40 ++ VL2 X a q u) := by
  simp only [VX, VL1, VL2, Fin0, Fin1, Fin2, Fin3, Fin4, Fin5, Fin6, Fin7, Fin8, Fin9, List.cons_append, List.nil_append, List.append_assoc]
theorem VL1_len (X : XT) (a : Nat) (q : Nat → Nat) (u : Nat → Nat → Nat) : (VL1 X a q u).length = 27 := rfl
theorem get_1 {X : XT} {a : Nat} {q : Nat → Nat} {u : Nat → Nat → Nat} {p : Nat} {x : Nat × va_E} (h : (VL1 X a q u)[p]? = some x) : (VX X a q u)[p]? = some x := by
  rw [VX_flat, List.getElem?_append_left (List.getElem?_eq_some_iff.mp h).1]; exact h
theorem get_C {X : XT} {a : Nat} {q : Nat → Nat} {u : Nat → Nat → Nat} {p : Nat} {x : Nat × va_E} (h : (curW X (u 4) 40)[p]? = some x) : (VX X a q u)[27 + p]? = some x := by
  rw [VX_flat, List.getElem?_append_right (by rw [VL1_len]; omega), VL1_len, Nat.add_sub_cancel_left, List.getElem?_append_left (List.getElem?_eq_some_iff.mp h).1]; exact h
theorem get_2 {X : XT} {a : Nat} {q : Nat → Nat} {u : Nat → Nat → Nat} {p : Nat} {x : Nat × va_E} (h : (VL2 X a q u)[p]? = some x) : (VX X a q u)[107 + p]? = some x := by
  rw [VX_flat, List.getElem?_append_right (by rw [VL1_len]; omega), VL1_len, show 107 + p - 27 = 80 + p by omega, List.getElem?_append_right (by rw [curW_len]; omega), curW_len, show 80 + p - 2 * 40 = p by omega]; exact h
theorem curW_get (X : XT) (u : Nat → Nat) : ∀ n j, j < n → (curW X u n)[2 * j]? = some (u (1 + 2 * j), .inr (0, [.ref (u (2 + 2 * j)), .int 0, .int 0])) ∧ (curW X u n)[2 * j + 1]? = some (u (2 + 2 * j), .inl (X.2.1 0, 48, .inl (fun _ => 0)))
  | 0, j, h => absurd h (by omega)
  | n + 1, j, h => by
    by_cases hj : j < n
    · obtain ⟨h1, h2⟩ := curW_get X u n j hj
      rw [curW, List.getElem?_append_left (by rw [curW_len]; omega), List.getElem?_append_left (by rw [curW_len]; omega)]
      exact ⟨h1, h2⟩
    · have : j = n := by omega
      subst this
      rw [curW, List.getElem?_append_right (by rw [curW_len]; omega), List.getElem?_append_right (by rw [curW_len]; omega), curW_len, show 2 * j - 2 * j = 0 by omega, show 2 * j + 1 - 2 * j = 1 by omega]
      exact ⟨rfl, rfl⟩
theorem vx_0 (X : XT) (a : Nat) (q : Nat → Nat) (u : Nat → Nat → Nat) : (VL1 X a q u)[0]? = some (adC a q u 0, celz X.2.1 (adC a q u) (shC 0)) := rfl
theorem vx_1 (X : XT) (a : Nat) (q : Nat → Nat) (u : Nat → Nat → Nat) : (VL1 X a q u)[1]? = some (adC a q u 1, celz X.2.1 (adC a q u) (shC 1)) := rfl
theorem vx_2 (X : XT) (a : Nat) (q : Nat → Nat) (u : Nat → Nat → Nat) : (VL1 X a q u)[2]? = some (adC a q u 2, celz X.2.1 (adC a q u) (shC 2)) := rfl
theorem vx_3 (X : XT) (a : Nat) (q : Nat → Nat) (u : Nat → Nat → Nat) : (VL1 X a q u)[3]? = some (adC a q u 3, celz X.2.1 (adC a q u) (shC 3)) := rfl
theorem vx_4 (X : XT) (a : Nat) (q : Nat → Nat) (u : Nat → Nat → Nat) : (VL1 X a q u)[4]? = some (adC a q u 4, celz X.2.1 (adC a q u) (shC 4)) := rfl
theorem vx_5 (X : XT) (a : Nat) (q : Nat → Nat) (u : Nat → Nat → Nat) : (VL1 X a q u)[5]? = some (adC a q u 5, celz X.2.1 (adC a q u) (shC 5)) := rfl
theorem vx_6 (X : XT) (a : Nat) (q : Nat → Nat) (u : Nat → Nat → Nat) : (VL1 X a q u)[6]? = some (adC a q u 6, celz X.2.1 (adC a q u) (shC 6)) := rfl
theorem vx_7 (X : XT) (a : Nat) (q : Nat → Nat) (u : Nat → Nat → Nat) : (VL1 X a q u)[7]? = some (adC a q u 7, celz X.2.1 (adC a q u) (shC 7)) := rfl
theorem vx_8 (X : XT) (a : Nat) (q : Nat → Nat) (u : Nat → Nat → Nat) : (VL1 X a q u)[8]? = some (adC a q u 8, celz X.2.1 (adC a q u) (shC 8)) := rfl
theorem vx_9 (X : XT) (a : Nat) (q : Nat → Nat) (u : Nat → Nat → Nat) : (VL1 X a q u)[9]? = some (adC a q u 9, celz X.2.1 (adC a q u) (shC 9)) := rfl
theorem vx_10 (X : XT) (a : Nat) (q : Nat → Nat) (u : Nat → Nat → Nat) : (VL1 X a q u)[10]? = some (adC a q u 10, celz X.2.1 (adC a q u) (shC 10)) := rfl
theorem vx_11 (X : XT) (a : Nat) (q : Nat → Nat) (u : Nat → Nat → Nat) : (VL1 X a q u)[11]? = some (adC a q u 11, celz X.2.1 (adC a q u) (shC 11)) := rfl
theorem vx_12 (X : XT) (a : Nat) (q : Nat → Nat) (u : Nat → Nat → Nat) : (VL1 X a q u)[12]? = some (adC a q u 12, celz X.2.1 (adC a q u) (shC 12)) := rfl
theorem vx_13 (X : XT) (a : Nat) (q : Nat → Nat) (u : Nat → Nat → Nat) : (VL1 X a q u)[13]? = some (adC a q u 13, celz X.2.1 (adC a q u) (shC 13)) := rfl
theorem vx_14 (X : XT) (a : Nat) (q : Nat → Nat) (u : Nat → Nat → Nat) : (VL1 X a q u)[14]? = some (adC a q u 14, celz X.2.1 (adC a q u) (shC 14)) := rfl
theorem vx_15 (X : XT) (a : Nat) (q : Nat → Nat) (u : Nat → Nat → Nat) : (VL1 X a q u)[15]? = some (adC a q u 15, celz X.2.1 (adC a q u) (shC 15)) := rfl
theorem vx_16 (X : XT) (a : Nat) (q : Nat → Nat) (u : Nat → Nat → Nat) : (VL1 X a q u)[16]? = some (adC a q u 16, celz X.2.1 (adC a q u) (shC 16)) := rfl
theorem vx_17 (X : XT) (a : Nat) (q : Nat → Nat) (u : Nat → Nat → Nat) : (VL1 X a q u)[17]? = some (adC a q u 17, celz X.2.1 (adC a q u) (shC 17)) := rfl
theorem vx_18 (X : XT) (a : Nat) (q : Nat → Nat) (u : Nat → Nat → Nat) : (VL1 X a q u)[18]? = some (adC a q u 18, celz X.2.1 (adC a q u) (shC 18)) := rfl
theorem vx_19 (X : XT) (a : Nat) (q : Nat → Nat) (u : Nat → Nat → Nat) : (VL1 X a q u)[19]? = some (adC a q u 19, celz X.2.1 (adC a q u) (shC 19)) := rfl
theorem vx_20 (X : XT) (a : Nat) (q : Nat → Nat) (u : Nat → Nat → Nat) : (VL1 X a q u)[20]? = some (adC a q u 20, celz X.2.1 (adC a q u) (shC 20)) := rfl
theorem vx_21 (X : XT) (a : Nat) (q : Nat → Nat) (u : Nat → Nat → Nat) : (VL1 X a q u)[21]? = some (adC a q u 21, celz X.2.1 (adC a q u) (shC 21)) := rfl
theorem vx_22 (X : XT) (a : Nat) (q : Nat → Nat) (u : Nat → Nat → Nat) : (VL1 X a q u)[22]? = some (adC a q u 22, celz X.2.1 (adC a q u) (shC 22)) := rfl
theorem vx_23 (X : XT) (a : Nat) (q : Nat → Nat) (u : Nat → Nat → Nat) : (VL1 X a q u)[23]? = some (adC a q u 23, celz X.2.1 (adC a q u) (shC 23)) := rfl
theorem vx_24 (X : XT) (a : Nat) (q : Nat → Nat) (u : Nat → Nat → Nat) : (VL1 X a q u)[24]? = some (adC a q u 24, celz X.2.1 (adC a q u) (shC 24)) := rfl
theorem vx_25 (X : XT) (a : Nat) (q : Nat → Nat) (u : Nat → Nat → Nat) : (VL1 X a q u)[25]? = some (adC a q u 25, celz X.2.1 (adC a q u) (shC 25)) := rfl
theorem vx_26 (X : XT) (a : Nat) (q : Nat → Nat) (u : Nat → Nat → Nat) : (VL1 X a q u)[26]? = some (adC a q u 26, .inl (X.2.1 4, 40, .inr (.inr (.inr (.inr (rowsF (u 4) 40)))))) := rfl
theorem vx_27 (X : XT) (a : Nat) (q : Nat → Nat) (u : Nat → Nat → Nat) : (VL2 X a q u)[0]? = some (adC a q u 27, celz X.2.1 (adC a q u) (shC 27)) := rfl
theorem vx_28 (X : XT) (a : Nat) (q : Nat → Nat) (u : Nat → Nat → Nat) : (VL2 X a q u)[1]? = some (adC a q u 28, celz X.2.1 (adC a q u) (shC 28)) := rfl
theorem vx_29 (X : XT) (a : Nat) (q : Nat → Nat) (u : Nat → Nat → Nat) : (VL2 X a q u)[2]? = some (adC a q u 29, celz X.2.1 (adC a q u) (shC 29)) := rfl
theorem vx_30 (X : XT) (a : Nat) (q : Nat → Nat) (u : Nat → Nat → Nat) : (VL2 X a q u)[3]? = some (adC a q u 30, celz X.2.1 (adC a q u) (shC 30)) := rfl
theorem vx_31 (X : XT) (a : Nat) (q : Nat → Nat) (u : Nat → Nat → Nat) : (VL2 X a q u)[4]? = some (adC a q u 31, .inl (X.2.1 3, 4, .inr (.inr (.inr (.inr (va_up (va_up (va_up (va_up (fun _ => none) 0 (some (q 15))) 1 (some (q 16))) 2 (some (q 17))) 3 (some (q 18)))))))) := rfl
theorem vx_32 (X : XT) (a : Nat) (q : Nat → Nat) (u : Nat → Nat → Nat) : (VL2 X a q u)[39]? = some (adC a q u 32, celz X.2.1 (adC a q u) (shC 32)) := rfl
theorem vx_33 (X : XT) (a : Nat) (q : Nat → Nat) (u : Nat → Nat → Nat) : (VL2 X a q u)[40]? = some (adC a q u 33, celz X.2.1 (adC a q u) (shC 33)) := rfl
theorem vx_34 (X : XT) (a : Nat) (q : Nat → Nat) (u : Nat → Nat → Nat) : (VL2 X a q u)[41]? = some (adC a q u 34, celz X.2.1 (adC a q u) (shC 34)) := rfl
theorem vx_35 (X : XT) (a : Nat) (q : Nat → Nat) (u : Nat → Nat → Nat) : (VL2 X a q u)[42]? = some (adC a q u 35, celz X.2.1 (adC a q u) (shC 35)) := rfl
theorem vx_36 (X : XT) (a : Nat) (q : Nat → Nat) (u : Nat → Nat → Nat) : (VL2 X a q u)[43]? = some (adC a q u 36, celz X.2.1 (adC a q u) (shC 36)) := rfl
theorem vx_37 (X : XT) (a : Nat) (q : Nat → Nat) (u : Nat → Nat → Nat) : (VL2 X a q u)[44]? = some (adC a q u 37, celz X.2.1 (adC a q u) (shC 37)) := rfl
theorem vx_38 (X : XT) (a : Nat) (q : Nat → Nat) (u : Nat → Nat → Nat) : (VL2 X a q u)[45]? = some (adC a q u 38, celz X.2.1 (adC a q u) (shC 38)) := rfl
theorem vx_39 (X : XT) (a : Nat) (q : Nat → Nat) (u : Nat → Nat → Nat) : (VL2 X a q u)[46]? = some (adC a q u 39, celz X.2.1 (adC a q u) (shC 39)) := rfl
theorem vx_40 (X : XT) (a : Nat) (q : Nat → Nat) (u : Nat → Nat → Nat) : (VL2 X a q u)[47]? = some (adC a q u 40, celz X.2.1 (adC a q u) (shC 40)) := rfl
theorem vx_41 (X : XT) (a : Nat) (q : Nat → Nat) (u : Nat → Nat → Nat) : (VL2 X a q u)[48]? = some (adC a q u 41, celz X.2.1 (adC a q u) (shC 41)) := rfl
theorem vx_42 (X : XT) (a : Nat) (q : Nat → Nat) (u : Nat → Nat → Nat) : (VL2 X a q u)[49]? = some (adC a q u 42, celz X.2.1 (adC a q u) (shC 42)) := rfl
theorem vx_43 (X : XT) (a : Nat) (q : Nat → Nat) (u : Nat → Nat → Nat) : (VL2 X a q u)[50]? = some (adC a q u 43, celz X.2.1 (adC a q u) (shC 43)) := rfl
theorem vx_44 (X : XT) (a : Nat) (q : Nat → Nat) (u : Nat → Nat → Nat) : (VL2 X a q u)[51]? = some (adC a q u 44, celz X.2.1 (adC a q u) (shC 44)) := rfl
theorem vx_45 (X : XT) (a : Nat) (q : Nat → Nat) (u : Nat → Nat → Nat) : (VL2 X a q u)[52]? = some (adC a q u 45, celz X.2.1 (adC a q u) (shC 45)) := rfl
theorem vx_46 (X : XT) (a : Nat) (q : Nat → Nat) (u : Nat → Nat → Nat) : (VL2 X a q u)[53]? = some (adC a q u 46, celz X.2.1 (adC a q u) (shC 46)) := rfl
theorem vx_47 (X : XT) (a : Nat) (q : Nat → Nat) (u : Nat → Nat → Nat) : (VL2 X a q u)[54]? = some (adC a q u 47, celz X.2.1 (adC a q u) (shC 47)) := rfl
theorem vx_48 (X : XT) (a : Nat) (q : Nat → Nat) (u : Nat → Nat → Nat) : (VL2 X a q u)[5]? = some (adC a q u 48, celz X.2.1 (adC a q u) (shC 48)) := rfl
theorem vx_49 (X : XT) (a : Nat) (q : Nat → Nat) (u : Nat → Nat → Nat) : (VL2 X a q u)[6]? = some (adC a q u 49, celz X.2.1 (adC a q u) (shC 49)) := rfl
theorem vx_50 (X : XT) (a : Nat) (q : Nat → Nat) (u : Nat → Nat → Nat) : (VL2 X a q u)[7]? = some (adC a q u 50, celz X.2.1 (adC a q u) (shC 50)) := rfl
theorem vx_51 (X : XT) (a : Nat) (q : Nat → Nat) (u : Nat → Nat → Nat) : (VL2 X a q u)[8]? = some (adC a q u 51, celz X.2.1 (adC a q u) (shC 51)) := rfl
theorem vx_52 (X : XT) (a : Nat) (q : Nat → Nat) (u : Nat → Nat → Nat) : (VL2 X a q u)[9]? = some (adC a q u 52, celz X.2.1 (adC a q u) (shC 52)) := rfl
theorem vx_53 (X : XT) (a : Nat) (q : Nat → Nat) (u : Nat → Nat → Nat) : (VL2 X a q u)[10]? = some (adC a q u 53, celz X.2.1 (adC a q u) (shC 53)) := rfl
theorem vx_54 (X : XT) (a : Nat) (q : Nat → Nat) (u : Nat → Nat → Nat) : (VL2 X a q u)[11]? = some (adC a q u 54, celz X.2.1 (adC a q u) (shC 54)) := rfl
theorem vx_55 (X : XT) (a : Nat) (q : Nat → Nat) (u : Nat → Nat → Nat) : (VL2 X a q u)[12]? = some (adC a q u 55, celz X.2.1 (adC a q u) (shC 55)) := rfl
theorem vx_56 (X : XT) (a : Nat) (q : Nat → Nat) (u : Nat → Nat → Nat) : (VL2 X a q u)[13]? = some (adC a q u 56, celz X.2.1 (adC a q u) (shC 56)) := rfl
theorem vx_57 (X : XT) (a : Nat) (q : Nat → Nat) (u : Nat → Nat → Nat) : (VL2 X a q u)[14]? = some (adC a q u 57, celz X.2.1 (adC a q u) (shC 57)) := rfl
theorem vx_58 (X : XT) (a : Nat) (q : Nat → Nat) (u : Nat → Nat → Nat) : (VL2 X a q u)[15]? = some (adC a q u 58, celz X.2.1 (adC a q u) (shC 58)) := rfl
theorem vx_59 (X : XT) (a : Nat) (q : Nat → Nat) (u : Nat → Nat → Nat) : (VL2 X a q u)[16]? = some (adC a q u 59, celz X.2.1 (adC a q u) (shC 59)) := rfl
theorem vx_60 (X : XT) (a : Nat) (q : Nat → Nat) (u : Nat → Nat → Nat) : (VL2 X a q u)[17]? = some (adC a q u 60, celz X.2.1 (adC a q u) (shC 60)) := rfl
theorem vx_61 (X : XT) (a : Nat) (q : Nat → Nat) (u : Nat → Nat → Nat) : (VL2 X a q u)[18]? = some (adC a q u 61, celz X.2.1 (adC a q u) (shC 61)) := rfl
theorem vx_62 (X : XT) (a : Nat) (q : Nat → Nat) (u : Nat → Nat → Nat) : (VL2 X a q u)[19]? = some (adC a q u 62, celz X.2.1 (adC a q u) (shC 62)) := rfl
theorem vx_63 (X : XT) (a : Nat) (q : Nat → Nat) (u : Nat → Nat → Nat) : (VL2 X a q u)[20]? = some (adC a q u 63, celz X.2.1 (adC a q u) (shC 63)) := rfl
theorem vx_64 (X : XT) (a : Nat) (q : Nat → Nat) (u : Nat → Nat → Nat) : (VL2 X a q u)[21]? = some (adC a q u 64, celz X.2.1 (adC a q u) (shC 64)) := rfl
theorem vx_65 (X : XT) (a : Nat) (q : Nat → Nat) (u : Nat → Nat → Nat) : (VL2 X a q u)[22]? = some (adC a q u 65, celz X.2.1 (adC a q u) (shC 65)) := rfl
theorem vx_66 (X : XT) (a : Nat) (q : Nat → Nat) (u : Nat → Nat → Nat) : (VL2 X a q u)[23]? = some (adC a q u 66, celz X.2.1 (adC a q u) (shC 66)) := rfl
theorem vx_67 (X : XT) (a : Nat) (q : Nat → Nat) (u : Nat → Nat → Nat) : (VL2 X a q u)[24]? = some (adC a q u 67, celz X.2.1 (adC a q u) (shC 67)) := rfl
theorem vx_68 (X : XT) (a : Nat) (q : Nat → Nat) (u : Nat → Nat → Nat) : (VL2 X a q u)[25]? = some (adC a q u 68, celz X.2.1 (adC a q u) (shC 68)) := rfl
theorem vx_69 (X : XT) (a : Nat) (q : Nat → Nat) (u : Nat → Nat → Nat) : (VL2 X a q u)[26]? = some (adC a q u 69, celz X.2.1 (adC a q u) (shC 69)) := rfl
theorem vx_70 (X : XT) (a : Nat) (q : Nat → Nat) (u : Nat → Nat → Nat) : (VL2 X a q u)[27]? = some (adC a q u 70, celz X.2.1 (adC a q u) (shC 70)) := rfl
theorem vx_71 (X : XT) (a : Nat) (q : Nat → Nat) (u : Nat → Nat → Nat) : (VL2 X a q u)[28]? = some (adC a q u 71, celz X.2.1 (adC a q u) (shC 71)) := rfl
theorem vx_72 (X : XT) (a : Nat) (q : Nat → Nat) (u : Nat → Nat → Nat) : (VL2 X a q u)[29]? = some (adC a q u 72, celz X.2.1 (adC a q u) (shC 72)) := rfl
theorem vx_73 (X : XT) (a : Nat) (q : Nat → Nat) (u : Nat → Nat → Nat) : (VL2 X a q u)[30]? = some (adC a q u 73, celz X.2.1 (adC a q u) (shC 73)) := rfl
theorem vx_74 (X : XT) (a : Nat) (q : Nat → Nat) (u : Nat → Nat → Nat) : (VL2 X a q u)[31]? = some (adC a q u 74, celz X.2.1 (adC a q u) (shC 74)) := rfl
theorem vx_75 (X : XT) (a : Nat) (q : Nat → Nat) (u : Nat → Nat → Nat) : (VL2 X a q u)[32]? = some (adC a q u 75, celz X.2.1 (adC a q u) (shC 75)) := rfl
theorem vx_76 (X : XT) (a : Nat) (q : Nat → Nat) (u : Nat → Nat → Nat) : (VL2 X a q u)[33]? = some (adC a q u 76, celz X.2.1 (adC a q u) (shC 76)) := rfl
theorem vx_77 (X : XT) (a : Nat) (q : Nat → Nat) (u : Nat → Nat → Nat) : (VL2 X a q u)[34]? = some (adC a q u 77, celz X.2.1 (adC a q u) (shC 77)) := rfl
theorem vx_78 (X : XT) (a : Nat) (q : Nat → Nat) (u : Nat → Nat → Nat) : (VL2 X a q u)[35]? = some (adC a q u 78, celz X.2.1 (adC a q u) (shC 78)) := rfl
theorem vx_79 (X : XT) (a : Nat) (q : Nat → Nat) (u : Nat → Nat → Nat) : (VL2 X a q u)[36]? = some (adC a q u 79, celz X.2.1 (adC a q u) (shC 79)) := rfl
theorem vx_80 (X : XT) (a : Nat) (q : Nat → Nat) (u : Nat → Nat → Nat) : (VL2 X a q u)[37]? = some (adC a q u 80, celz X.2.1 (adC a q u) (shC 80)) := rfl
theorem vx_81 (X : XT) (a : Nat) (q : Nat → Nat) (u : Nat → Nat → Nat) : (VL2 X a q u)[38]? = some (adC a q u 81, celz X.2.1 (adC a q u) (shC 81)) := rfl
theorem vx_82 (X : XT) (a : Nat) (q : Nat → Nat) (u : Nat → Nat → Nat) : (curW X (u 4) 40)[0]? = some (adC a q u 82, celz X.2.1 (adC a q u) (shC 82)) := (curW_get X (u 4) 40 0 (by decide)).1
theorem vx_83 (X : XT) (a : Nat) (q : Nat → Nat) (u : Nat → Nat → Nat) : (curW X (u 4) 40)[1]? = some (adC a q u 83, celz X.2.1 (adC a q u) (shC 83)) := (curW_get X (u 4) 40 0 (by decide)).2
theorem vx_84 (X : XT) (a : Nat) (q : Nat → Nat) (u : Nat → Nat → Nat) : (curW X (u 4) 40)[2]? = some (adC a q u 84, celz X.2.1 (adC a q u) (shC 84)) := (curW_get X (u 4) 40 1 (by decide)).1
theorem vx_85 (X : XT) (a : Nat) (q : Nat → Nat) (u : Nat → Nat → Nat) : (curW X (u 4) 40)[3]? = some (adC a q u 85, celz X.2.1 (adC a q u) (shC 85)) := (curW_get X (u 4) 40 1 (by decide)).2
theorem vx_86 (X : XT) (a : Nat) (q : Nat → Nat) (u : Nat → Nat → Nat) : (curW X (u 4) 40)[4]? = some (adC a q u 86, celz X.2.1 (adC a q u) (shC 86)) := (curW_get X (u 4) 40 2 (by decide)).1
theorem vx_87 (X : XT) (a : Nat) (q : Nat → Nat) (u : Nat → Nat → Nat) : (curW X (u 4) 40)[5]? = some (adC a q u 87, celz X.2.1 (adC a q u) (shC 87)) := (curW_get X (u 4) 40 2 (by decide)).2
theorem vx_88 (X : XT) (a : Nat) (q : Nat → Nat) (u : Nat → Nat → Nat) : (curW X (u 4) 40)[6]? = some (adC a q u 88, celz X.2.1 (adC a q u) (shC 88)) := (curW_get X (u 4) 40 3 (by decide)).1
theorem vx_89 (X : XT) (a : Nat) (q : Nat → Nat) (u : Nat → Nat → Nat) : (curW X (u 4) 40)[7]? = some (adC a q u 89, celz X.2.1 (adC a q u) (shC 89)) := (curW_get X (u 4) 40 3 (by decide)).2
theorem vx_90 (X : XT) (a : Nat) (q : Nat → Nat) (u : Nat → Nat → Nat) : (curW X (u 4) 40)[8]? = some (adC a q u 90, celz X.2.1 (adC a q u) (shC 90)) := (curW_get X (u 4) 40 4 (by decide)).1
theorem vx_91 (X : XT) (a : Nat) (q : Nat → Nat) (u : Nat → Nat → Nat) : (curW X (u 4) 40)[9]? = some (adC a q u 91, celz X.2.1 (adC a q u) (shC 91)) := (curW_get X (u 4) 40 4 (by decide)).2
theorem vx_92 (X : XT) (a : Nat) (q : Nat → Nat) (u : Nat → Nat → Nat) : (curW X (u 4) 40)[10]? = some (adC a q u 92, celz X.2.1 (adC a q u) (shC 92)) := (curW_get X (u 4) 40 5 (by decide)).1
theorem vx_93 (X : XT) (a : Nat) (q : Nat → Nat) (u : Nat → Nat → Nat) : (curW X (u 4) 40)[11]? = some (adC a q u 93, celz X.2.1 (adC a q u) (shC 93)) := (curW_get X (u 4) 40 5 (by decide)).2
theorem vx_94 (X : XT) (a : Nat) (q : Nat → Nat) (u : Nat → Nat → Nat) : (curW X (u 4) 40)[12]? = some (adC a q u 94, celz X.2.1 (adC a q u) (shC 94)) := (curW_get X (u 4) 40 6 (by decide)).1
theorem vx_95 (X : XT) (a : Nat) (q : Nat → Nat) (u : Nat → Nat → Nat) : (curW X (u 4) 40)[13]? = some (adC a q u 95, celz X.2.1 (adC a q u) (shC 95)) := (curW_get X (u 4) 40 6 (by decide)).2
theorem vx_96 (X : XT) (a : Nat) (q : Nat → Nat) (u : Nat → Nat → Nat) : (curW X (u 4) 40)[14]? = some (adC a q u 96, celz X.2.1 (adC a q u) (shC 96)) := (curW_get X (u 4) 40 7 (by decide)).1
theorem vx_97 (X : XT) (a : Nat) (q : Nat → Nat) (u : Nat → Nat → Nat) : (curW X (u 4) 40)[15]? = some (adC a q u 97, celz X.2.1 (adC a q u) (shC 97)) := (curW_get X (u 4) 40 7 (by decide)).2
theorem vx_98 (X : XT) (a : Nat) (q : Nat → Nat) (u : Nat → Nat → Nat) : (curW X (u 4) 40)[16]? = some (adC a q u 98, celz X.2.1 (adC a q u) (shC 98)) := (curW_get X (u 4) 40 8 (by decide)).1
theorem vx_99 (X : XT) (a : Nat) (q : Nat → Nat) (u : Nat → Nat → Nat) : (curW X (u 4) 40)[17]? = some (adC a q u 99, celz X.2.1 (adC a q u) (shC 99)) := (curW_get X (u 4) 40 8 (by decide)).2
theorem vx_100 (X : XT) (a : Nat) (q : Nat → Nat) (u : Nat → Nat → Nat) : (curW X (u 4) 40)[18]? = some (adC a q u 100, celz X.2.1 (adC a q u) (shC 100)) := (curW_get X (u 4) 40 9 (by decide)).1
theorem vx_101 (X : XT) (a : Nat) (q : Nat → Nat) (u : Nat → Nat → Nat) : (curW X (u 4) 40)[19]? = some (adC a q u 101, celz X.2.1 (adC a q u) (shC 101)) := (curW_get X (u 4) 40 9 (by decide)).2
theorem vx_102 (X : XT) (a : Nat) (q : Nat → Nat) (u : Nat → Nat → Nat) : (curW X (u 4) 40)[20]? = some (adC a q u 102, celz X.2.1 (adC a q u) (shC 102)) := (curW_get X (u 4) 40 10 (by decide)).1
theorem vx_103 (X : XT) (a : Nat) (q : Nat → Nat) (u : Nat → Nat → Nat) : (curW X (u 4) 40)[21]? = some (adC a q u 103, celz X.2.1 (adC a q u) (shC 103)) := (curW_get X (u 4) 40 10 (by decide)).2
theorem vx_104 (X : XT) (a : Nat) (q : Nat → Nat) (u : Nat → Nat → Nat) : (curW X (u 4) 40)[22]? = some (adC a q u 104, celz X.2.1 (adC a q u) (shC 104)) := (curW_get X (u 4) 40 11 (by decide)).1
theorem vx_105 (X : XT) (a : Nat) (q : Nat → Nat) (u : Nat → Nat → Nat) : (curW X (u 4) 40)[23]? = some (adC a q u 105, celz X.2.1 (adC a q u) (shC 105)) := (curW_get X (u 4) 40 11 (by decide)).2
theorem vx_106 (X : XT) (a : Nat) (q : Nat → Nat) (u : Nat → Nat → Nat) : (curW X (u 4) 40)[24]? = some (adC a q u 106, celz X.2.1 (adC a q u) (shC 106)) := (curW_get X (u 4) 40 12 (by decide)).1
theorem vx_107 (X : XT) (a : Nat) (q : Nat → Nat) (u : Nat → Nat → Nat) : (curW X (u 4) 40)[25]? = some (adC a q u 107, celz X.2.1 (adC a q u) (shC 107)) := (curW_get X (u 4) 40 12 (by decide)).2
theorem vx_108 (X : XT) (a : Nat) (q : Nat → Nat) (u : Nat → Nat → Nat) : (curW X (u 4) 40)[26]? = some (adC a q u 108, celz X.2.1 (adC a q u) (shC 108)) := (curW_get X (u 4) 40 13 (by decide)).1
theorem vx_109 (X : XT) (a : Nat) (q : Nat → Nat) (u : Nat → Nat → Nat) : (curW X (u 4) 40)[27]? = some (adC a q u 109, celz X.2.1 (adC a q u) (shC 109)) := (curW_get X (u 4) 40 13 (by decide)).2
theorem vx_110 (X : XT) (a : Nat) (q : Nat → Nat) (u : Nat → Nat → Nat) : (curW X (u 4) 40)[28]? = some (adC a q u 110, celz X.2.1 (adC a q u) (shC 110)) := (curW_get X (u 4) 40 14 (by decide)).1
theorem vx_111 (X : XT) (a : Nat) (q : Nat → Nat) (u : Nat → Nat → Nat) : (curW X (u 4) 40)[29]? = some (adC a q u 111, celz X.2.1 (adC a q u) (shC 111)) := (curW_get X (u 4) 40 14 (by decide)).2
theorem vx_112 (X : XT) (a : Nat) (q : Nat → Nat) (u : Nat → Nat → Nat) : (curW X (u 4) 40)[30]? = some (adC a q u 112, celz X.2.1 (adC a q u) (shC 112)) := (curW_get X (u 4) 40 15 (by decide)).1
theorem vx_113 (X : XT) (a : Nat) (q : Nat → Nat) (u : Nat → Nat → Nat) : (curW X (u 4) 40)[31]? = some (adC a q u 113, celz X.2.1 (adC a q u) (shC 113)) := (curW_get X (u 4) 40 15 (by decide)).2
theorem vx_114 (X : XT) (a : Nat) (q : Nat → Nat) (u : Nat → Nat → Nat) : (curW X (u 4) 40)[32]? = some (adC a q u 114, celz X.2.1 (adC a q u) (shC 114)) := (curW_get X (u 4) 40 16 (by decide)).1
theorem vx_115 (X : XT) (a : Nat) (q : Nat → Nat) (u : Nat → Nat → Nat) : (curW X (u 4) 40)[33]? = some (adC a q u 115, celz X.2.1 (adC a q u) (shC 115)) := (curW_get X (u 4) 40 16 (by decide)).2
theorem vx_116 (X : XT) (a : Nat) (q : Nat → Nat) (u : Nat → Nat → Nat) : (curW X (u 4) 40)[34]? = some (adC a q u 116, celz X.2.1 (adC a q u) (shC 116)) := (curW_get X (u 4) 40 17 (by decide)).1
theorem vx_117 (X : XT) (a : Nat) (q : Nat → Nat) (u : Nat → Nat → Nat) : (curW X (u 4) 40)[35]? = some (adC a q u 117, celz X.2.1 (adC a q u) (shC 117)) := (curW_get X (u 4) 40 17 (by decide)).2
theorem vx_118 (X : XT) (a : Nat) (q : Nat → Nat) (u : Nat → Nat → Nat) : (curW X (u 4) 40)[36]? = some (adC a q u 118, celz X.2.1 (adC a q u) (shC 118)) := (curW_get X (u 4) 40 18 (by decide)).1
theorem vx_119 (X : XT) (a : Nat) (q : Nat → Nat) (u : Nat → Nat → Nat) : (curW X (u 4) 40)[37]? = some (adC a q u 119, celz X.2.1 (adC a q u) (shC 119)) := (curW_get X (u 4) 40 18 (by decide)).2
theorem vx_120 (X : XT) (a : Nat) (q : Nat → Nat) (u : Nat → Nat → Nat) : (curW X (u 4) 40)[38]? = some (adC a q u 120, celz X.2.1 (adC a q u) (shC 120)) := (curW_get X (u 4) 40 19 (by decide)).1
theorem vx_121 (X : XT) (a : Nat) (q : Nat → Nat) (u : Nat → Nat → Nat) : (curW X (u 4) 40)[39]? = some (adC a q u 121, celz X.2.1 (adC a q u) (shC 121)) := (curW_get X (u 4) 40 19 (by decide)).2
theorem vx_122 (X : XT) (a : Nat) (q : Nat → Nat) (u : Nat → Nat → Nat) : (curW X (u 4) 40)[40]? = some (adC a q u 122, celz X.2.1 (adC a q u) (shC 122)) := (curW_get X (u 4) 40 20 (by decide)).1
theorem vx_123 (X : XT) (a : Nat) (q : Nat → Nat) (u : Nat → Nat → Nat) : (curW X (u 4) 40)[41]? = some (adC a q u 123, celz X.2.1 (adC a q u) (shC 123)) := (curW_get X (u 4) 40 20 (by decide)).2
theorem vx_124 (X : XT) (a : Nat) (q : Nat → Nat) (u : Nat → Nat → Nat) : (curW X (u 4) 40)[42]? = some (adC a q u 124, celz X.2.1 (adC a q u) (shC 124)) := (curW_get X (u 4) 40 21 (by decide)).1
theorem vx_125 (X : XT) (a : Nat) (q : Nat → Nat) (u : Nat → Nat → Nat) : (curW X (u 4) 40)[43]? = some (adC a q u 125, celz X.2.1 (adC a q u) (shC 125)) := (curW_get X (u 4) 40 21 (by decide)).2
theorem vx_126 (X : XT) (a : Nat) (q : Nat → Nat) (u : Nat → Nat → Nat) : (curW X (u 4) 40)[44]? = some (adC a q u 126, celz X.2.1 (adC a q u) (shC 126)) := (curW_get X (u 4) 40 22 (by decide)).1
theorem vx_127 (X : XT) (a : Nat) (q : Nat → Nat) (u : Nat → Nat → Nat) : (curW X (u 4) 40)[45]? = some (adC a q u 127, celz X.2.1 (adC a q u) (shC 127)) := (curW_get X (u 4) 40 22 (by decide)).2
theorem vx_128 (X : XT) (a : Nat) (q : Nat → Nat) (u : Nat → Nat → Nat) : (curW X (u 4) 40)[46]? = some (adC a q u 128, celz X.2.1 (adC a q u) (shC 128)) := (curW_get X (u 4) 40 23 (by decide)).1
theorem vx_129 (X : XT) (a : Nat) (q : Nat → Nat) (u : Nat → Nat → Nat) : (curW X (u 4) 40)[47]? = some (adC a q u 129, celz X.2.1 (adC a q u) (shC 129)) := (curW_get X (u 4) 40 23 (by decide)).2
theorem vx_130 (X : XT) (a : Nat) (q : Nat → Nat) (u : Nat → Nat → Nat) : (curW X (u 4) 40)[48]? = some (adC a q u 130, celz X.2.1 (adC a q u) (shC 130)) := (curW_get X (u 4) 40 24 (by decide)).1
theorem vx_131 (X : XT) (a : Nat) (q : Nat → Nat) (u : Nat → Nat → Nat) : (curW X (u 4) 40)[49]? = some (adC a q u 131, celz X.2.1 (adC a q u) (shC 131)) := (curW_get X (u 4) 40 24 (by decide)).2
theorem vx_132 (X : XT) (a : Nat) (q : Nat → Nat) (u : Nat → Nat → Nat) : (curW X (u 4) 40)[50]? = some (adC a q u 132, celz X.2.1 (adC a q u) (shC 132)) := (curW_get X (u 4) 40 25 (by decide)).1
theorem vx_133 (X : XT) (a : Nat) (q : Nat → Nat) (u : Nat → Nat → Nat) : (curW X (u 4) 40)[51]? = some (adC a q u 133, celz X.2.1 (adC a q u) (shC 133)) := (curW_get X (u 4) 40 25 (by decide)).2
theorem vx_134 (X : XT) (a : Nat) (q : Nat → Nat) (u : Nat → Nat → Nat) : (curW X (u 4) 40)[52]? = some (adC a q u 134, celz X.2.1 (adC a q u) (shC 134)) := (curW_get X (u 4) 40 26 (by decide)).1
theorem vx_135 (X : XT) (a : Nat) (q : Nat → Nat) (u : Nat → Nat → Nat) : (curW X (u 4) 40)[53]? = some (adC a q u 135, celz X.2.1 (adC a q u) (shC 135)) := (curW_get X (u 4) 40 26 (by decide)).2
theorem vx_136 (X : XT) (a : Nat) (q : Nat → Nat) (u : Nat → Nat → Nat) : (curW X (u 4) 40)[54]? = some (adC a q u 136, celz X.2.1 (adC a q u) (shC 136)) := (curW_get X (u 4) 40 27 (by decide)).1
theorem vx_137 (X : XT) (a : Nat) (q : Nat → Nat) (u : Nat → Nat → Nat) : (curW X (u 4) 40)[55]? = some (adC a q u 137, celz X.2.1 (adC a q u) (shC 137)) := (curW_get X (u 4) 40 27 (by decide)).2
theorem vx_138 (X : XT) (a : Nat) (q : Nat → Nat) (u : Nat → Nat → Nat) : (curW X (u 4) 40)[56]? = some (adC a q u 138, celz X.2.1 (adC a q u) (shC 138)) := (curW_get X (u 4) 40 28 (by decide)).1
theorem vx_139 (X : XT) (a : Nat) (q : Nat → Nat) (u : Nat → Nat → Nat) : (curW X (u 4) 40)[57]? = some (adC a q u 139, celz X.2.1 (adC a q u) (shC 139)) := (curW_get X (u 4) 40 28 (by decide)).2
theorem vx_140 (X : XT) (a : Nat) (q : Nat → Nat) (u : Nat → Nat → Nat) : (curW X (u 4) 40)[58]? = some (adC a q u 140, celz X.2.1 (adC a q u) (shC 140)) := (curW_get X (u 4) 40 29 (by decide)).1
theorem vx_141 (X : XT) (a : Nat) (q : Nat → Nat) (u : Nat → Nat → Nat) : (curW X (u 4) 40)[59]? = some (adC a q u 141, celz X.2.1 (adC a q u) (shC 141)) := (curW_get X (u 4) 40 29 (by decide)).2
theorem vx_142 (X : XT) (a : Nat) (q : Nat → Nat) (u : Nat → Nat → Nat) : (curW X (u 4) 40)[60]? = some (adC a q u 142, celz X.2.1 (adC a q u) (shC 142)) := (curW_get X (u 4) 40 30 (by decide)).1
theorem vx_143 (X : XT) (a : Nat) (q : Nat → Nat) (u : Nat → Nat → Nat) : (curW X (u 4) 40)[61]? = some (adC a q u 143, celz X.2.1 (adC a q u) (shC 143)) := (curW_get X (u 4) 40 30 (by decide)).2
theorem vx_144 (X : XT) (a : Nat) (q : Nat → Nat) (u : Nat → Nat → Nat) : (curW X (u 4) 40)[62]? = some (adC a q u 144, celz X.2.1 (adC a q u) (shC 144)) := (curW_get X (u 4) 40 31 (by decide)).1
theorem vx_145 (X : XT) (a : Nat) (q : Nat → Nat) (u : Nat → Nat → Nat) : (curW X (u 4) 40)[63]? = some (adC a q u 145, celz X.2.1 (adC a q u) (shC 145)) := (curW_get X (u 4) 40 31 (by decide)).2
theorem vx_146 (X : XT) (a : Nat) (q : Nat → Nat) (u : Nat → Nat → Nat) : (curW X (u 4) 40)[64]? = some (adC a q u 146, celz X.2.1 (adC a q u) (shC 146)) := (curW_get X (u 4) 40 32 (by decide)).1
theorem vx_147 (X : XT) (a : Nat) (q : Nat → Nat) (u : Nat → Nat → Nat) : (curW X (u 4) 40)[65]? = some (adC a q u 147, celz X.2.1 (adC a q u) (shC 147)) := (curW_get X (u 4) 40 32 (by decide)).2
theorem vx_148 (X : XT) (a : Nat) (q : Nat → Nat) (u : Nat → Nat → Nat) : (curW X (u 4) 40)[66]? = some (adC a q u 148, celz X.2.1 (adC a q u) (shC 148)) := (curW_get X (u 4) 40 33 (by decide)).1
theorem vx_149 (X : XT) (a : Nat) (q : Nat → Nat) (u : Nat → Nat → Nat) : (curW X (u 4) 40)[67]? = some (adC a q u 149, celz X.2.1 (adC a q u) (shC 149)) := (curW_get X (u 4) 40 33 (by decide)).2
theorem vx_150 (X : XT) (a : Nat) (q : Nat → Nat) (u : Nat → Nat → Nat) : (curW X (u 4) 40)[68]? = some (adC a q u 150, celz X.2.1 (adC a q u) (shC 150)) := (curW_get X (u 4) 40 34 (by decide)).1
theorem vx_151 (X : XT) (a : Nat) (q : Nat → Nat) (u : Nat → Nat → Nat) : (curW X (u 4) 40)[69]? = some (adC a q u 151, celz X.2.1 (adC a q u) (shC 151)) := (curW_get X (u 4) 40 34 (by decide)).2
theorem vx_152 (X : XT) (a : Nat) (q : Nat → Nat) (u : Nat → Nat → Nat) : (curW X (u 4) 40)[70]? = some (adC a q u 152, celz X.2.1 (adC a q u) (shC 152)) := (curW_get X (u 4) 40 35 (by decide)).1
theorem vx_153 (X : XT) (a : Nat) (q : Nat → Nat) (u : Nat → Nat → Nat) : (curW X (u 4) 40)[71]? = some (adC a q u 153, celz X.2.1 (adC a q u) (shC 153)) := (curW_get X (u 4) 40 35 (by decide)).2
theorem vx_154 (X : XT) (a : Nat) (q : Nat → Nat) (u : Nat → Nat → Nat) : (curW X (u 4) 40)[72]? = some (adC a q u 154, celz X.2.1 (adC a q u) (shC 154)) := (curW_get X (u 4) 40 36 (by decide)).1
theorem vx_155 (X : XT) (a : Nat) (q : Nat → Nat) (u : Nat → Nat → Nat) : (curW X (u 4) 40)[73]? = some (adC a q u 155, celz X.2.1 (adC a q u) (shC 155)) := (curW_get X (u 4) 40 36 (by decide)).2
theorem vx_156 (X : XT) (a : Nat) (q : Nat → Nat) (u : Nat → Nat → Nat) : (curW X (u 4) 40)[74]? = some (adC a q u 156, celz X.2.1 (adC a q u) (shC 156)) := (curW_get X (u 4) 40 37 (by decide)).1
theorem vx_157 (X : XT) (a : Nat) (q : Nat → Nat) (u : Nat → Nat → Nat) : (curW X (u 4) 40)[75]? = some (adC a q u 157, celz X.2.1 (adC a q u) (shC 157)) := (curW_get X (u 4) 40 37 (by decide)).2
theorem vx_158 (X : XT) (a : Nat) (q : Nat → Nat) (u : Nat → Nat → Nat) : (curW X (u 4) 40)[76]? = some (adC a q u 158, celz X.2.1 (adC a q u) (shC 158)) := (curW_get X (u 4) 40 38 (by decide)).1
theorem vx_159 (X : XT) (a : Nat) (q : Nat → Nat) (u : Nat → Nat → Nat) : (curW X (u 4) 40)[77]? = some (adC a q u 159, celz X.2.1 (adC a q u) (shC 159)) := (curW_get X (u 4) 40 38 (by decide)).2
theorem vx_160 (X : XT) (a : Nat) (q : Nat → Nat) (u : Nat → Nat → Nat) : (curW X (u 4) 40)[78]? = some (adC a q u 160, celz X.2.1 (adC a q u) (shC 160)) := (curW_get X (u 4) 40 39 (by decide)).1
theorem vx_161 (X : XT) (a : Nat) (q : Nat → Nat) (u : Nat → Nat → Nat) : (curW X (u 4) 40)[79]? = some (adC a q u 161, celz X.2.1 (adC a q u) (shC 161)) := (curW_get X (u 4) 40 39 (by decide)).2
theorem at_arrQ {D : va_G} {cl : List vw_C} {q n : Nat} {cA : ClassId} {f g : Nat → Option Nat} {H : Heap} (h : va_at D cl (q, .inl (cA, n, .inr (.inr (.inr (.inr f))))) H) (hfg : ∀ j, j < n → f j = g j) : va_at D cl (q, .inl (cA, n, .inr (.inr (.inr (.inr g))))) H := by
  have e : vp_cell cA (n, .inr (.inr (.inr (.inr f)))) = vp_cell cA (n, .inr (.inr (.inr (.inr g)))) := by
    rw [vp_cell_q, vp_cell_q]
    unfold arrV
    congr 1
    congr 1
    funext j
    show va_rf (f j.val) = va_rf (g j.val)
    rw [hfg j.val j.isLt]
  have h1 : H[q]? = some (vp_cell cA (n, .inr (.inr (.inr (.inr f))))) := h
  show H[q]? = some (vp_cell cA (n, .inr (.inr (.inr (.inr g)))))
  rw [← e]; exact h1
def OkC (X : XT) (a : Nat) (q : Nat → Nat) (u : Nat → Nat → Nat) (i p : Nat) : Prop := ∃ e, (VX X a q u)[p]? = some (adC a q u i, e) ∧ (∀ D cl H, va_at D cl (adC a q u i, e) H → va_at D cl (adC a q u i, celz X.2.1 (adC a q u) (shC i)) H)
theorem lt_succ_of {P : Nat → Prop} {n : Nat} (h : ∀ i, i < n → P i) (hn : P n) : ∀ i, i < n + 1 → P i := fun i hi => by
  rcases Nat.lt_or_ge i n with g | g
  · exact h i g
  · have : i = n := by omega
    subst this; exact hn
theorem vk_0 (X : XT) (a : Nat) (q : Nat → Nat) (u : Nat → Nat → Nat) : OkC X a q u 0 (0) := ⟨_, get_1 (p := 0) (vx_0 X a q u), fun D cl H h => h⟩
theorem vk_1 (X : XT) (a : Nat) (q : Nat → Nat) (u : Nat → Nat → Nat) : OkC X a q u 1 (1) := ⟨_, get_1 (p := 1) (vx_1 X a q u), fun D cl H h => h⟩
theorem vk_2 (X : XT) (a : Nat) (q : Nat → Nat) (u : Nat → Nat → Nat) : OkC X a q u 2 (2) := ⟨_, get_1 (p := 2) (vx_2 X a q u), fun D cl H h => h⟩
theorem vk_3 (X : XT) (a : Nat) (q : Nat → Nat) (u : Nat → Nat → Nat) : OkC X a q u 3 (3) := ⟨_, get_1 (p := 3) (vx_3 X a q u), fun D cl H h => h⟩
theorem vk_4 (X : XT) (a : Nat) (q : Nat → Nat) (u : Nat → Nat → Nat) : OkC X a q u 4 (4) := ⟨_, get_1 (p := 4) (vx_4 X a q u), fun D cl H h => h⟩
theorem vk_5 (X : XT) (a : Nat) (q : Nat → Nat) (u : Nat → Nat → Nat) : OkC X a q u 5 (5) := ⟨_, get_1 (p := 5) (vx_5 X a q u), fun D cl H h => h⟩
theorem vk_6 (X : XT) (a : Nat) (q : Nat → Nat) (u : Nat → Nat → Nat) : OkC X a q u 6 (6) := ⟨_, get_1 (p := 6) (vx_6 X a q u), fun D cl H h => h⟩
theorem vk_7 (X : XT) (a : Nat) (q : Nat → Nat) (u : Nat → Nat → Nat) : OkC X a q u 7 (7) := ⟨_, get_1 (p := 7) (vx_7 X a q u), fun D cl H h => h⟩
theorem vk_8 (X : XT) (a : Nat) (q : Nat → Nat) (u : Nat → Nat → Nat) : OkC X a q u 8 (8) := ⟨_, get_1 (p := 8) (vx_8 X a q u), fun D cl H h => h⟩
theorem vk_9 (X : XT) (a : Nat) (q : Nat → Nat) (u : Nat → Nat → Nat) : OkC X a q u 9 (9) := ⟨_, get_1 (p := 9) (vx_9 X a q u), fun D cl H h => h⟩
theorem vk_10 (X : XT) (a : Nat) (q : Nat → Nat) (u : Nat → Nat → Nat) : OkC X a q u 10 (10) := ⟨_, get_1 (p := 10) (vx_10 X a q u), fun D cl H h => h⟩
theorem vk_11 (X : XT) (a : Nat) (q : Nat → Nat) (u : Nat → Nat → Nat) : OkC X a q u 11 (11) := ⟨_, get_1 (p := 11) (vx_11 X a q u), fun D cl H h => h⟩
theorem vk_12 (X : XT) (a : Nat) (q : Nat → Nat) (u : Nat → Nat → Nat) : OkC X a q u 12 (12) := ⟨_, get_1 (p := 12) (vx_12 X a q u), fun D cl H h => h⟩
theorem vk_13 (X : XT) (a : Nat) (q : Nat → Nat) (u : Nat → Nat → Nat) : OkC X a q u 13 (13) := ⟨_, get_1 (p := 13) (vx_13 X a q u), fun D cl H h => h⟩
theorem vk_14 (X : XT) (a : Nat) (q : Nat → Nat) (u : Nat → Nat → Nat) : OkC X a q u 14 (14) := ⟨_, get_1 (p := 14) (vx_14 X a q u), fun D cl H h => h⟩
theorem vk_15 (X : XT) (a : Nat) (q : Nat → Nat) (u : Nat → Nat → Nat) : OkC X a q u 15 (15) := ⟨_, get_1 (p := 15) (vx_15 X a q u), fun D cl H h => h⟩
theorem vk_16 (X : XT) (a : Nat) (q : Nat → Nat) (u : Nat → Nat → Nat) : OkC X a q u 16 (16) := ⟨_, get_1 (p := 16) (vx_16 X a q u), fun D cl H h => h⟩
theorem vk_17 (X : XT) (a : Nat) (q : Nat → Nat) (u : Nat → Nat → Nat) : OkC X a q u 17 (17) := ⟨_, get_1 (p := 17) (vx_17 X a q u), fun D cl H h => h⟩
theorem vk_18 (X : XT) (a : Nat) (q : Nat → Nat) (u : Nat → Nat → Nat) : OkC X a q u 18 (18) := ⟨_, get_1 (p := 18) (vx_18 X a q u), fun D cl H h => h⟩
theorem vk_19 (X : XT) (a : Nat) (q : Nat → Nat) (u : Nat → Nat → Nat) : OkC X a q u 19 (19) := ⟨_, get_1 (p := 19) (vx_19 X a q u), fun D cl H h => h⟩
theorem vk_20 (X : XT) (a : Nat) (q : Nat → Nat) (u : Nat → Nat → Nat) : OkC X a q u 20 (20) := ⟨_, get_1 (p := 20) (vx_20 X a q u), fun D cl H h => h⟩
theorem vk_21 (X : XT) (a : Nat) (q : Nat → Nat) (u : Nat → Nat → Nat) : OkC X a q u 21 (21) := ⟨_, get_1 (p := 21) (vx_21 X a q u), fun D cl H h => h⟩
theorem vk_22 (X : XT) (a : Nat) (q : Nat → Nat) (u : Nat → Nat → Nat) : OkC X a q u 22 (22) := ⟨_, get_1 (p := 22) (vx_22 X a q u), fun D cl H h => h⟩
theorem vk_23 (X : XT) (a : Nat) (q : Nat → Nat) (u : Nat → Nat → Nat) : OkC X a q u 23 (23) := ⟨_, get_1 (p := 23) (vx_23 X a q u), fun D cl H h => h⟩
theorem vk_24 (X : XT) (a : Nat) (q : Nat → Nat) (u : Nat → Nat → Nat) : OkC X a q u 24 (24) := ⟨_, get_1 (p := 24) (vx_24 X a q u), fun D cl H h => h⟩
theorem vk_25 (X : XT) (a : Nat) (q : Nat → Nat) (u : Nat → Nat → Nat) : OkC X a q u 25 (25) := ⟨_, get_1 (p := 25) (vx_25 X a q u), fun D cl H h => h⟩
theorem vk_26 (X : XT) (a : Nat) (q : Nat → Nat) (u : Nat → Nat → Nat) : OkC X a q u 26 (26) := ⟨_, get_1 (p := 26) (vx_26 X a q u), fun D cl H h => at_arrQ h (fun j hj => by unfold rowsF; rw [if_pos hj]; show _ = some (adC a q u (82 + 2 * j)); unfold adC; rw [if_neg (by omega), show 82 + 2 * j - 81 = 1 + 2 * j by omega])⟩
theorem vk_27 (X : XT) (a : Nat) (q : Nat → Nat) (u : Nat → Nat → Nat) : OkC X a q u 27 (107 + 0) := ⟨_, get_2 (p := 0) (vx_27 X a q u), fun D cl H h => h⟩
theorem vk_28 (X : XT) (a : Nat) (q : Nat → Nat) (u : Nat → Nat → Nat) : OkC X a q u 28 (107 + 1) := ⟨_, get_2 (p := 1) (vx_28 X a q u), fun D cl H h => h⟩
theorem vk_29 (X : XT) (a : Nat) (q : Nat → Nat) (u : Nat → Nat → Nat) : OkC X a q u 29 (107 + 2) := ⟨_, get_2 (p := 2) (vx_29 X a q u), fun D cl H h => h⟩
theorem vk_30 (X : XT) (a : Nat) (q : Nat → Nat) (u : Nat → Nat → Nat) : OkC X a q u 30 (107 + 3) := ⟨_, get_2 (p := 3) (vx_30 X a q u), fun D cl H h => h⟩
theorem vk_31 (X : XT) (a : Nat) (q : Nat → Nat) (u : Nat → Nat → Nat) : OkC X a q u 31 (107 + 4) := ⟨_, get_2 (p := 4) (vx_31 X a q u), fun D cl H h => at_arrQ h (fun j hj => by rcases (show j = 0 ∨ j = 1 ∨ j = 2 ∨ j = 3 by omega) with rfl | rfl | rfl | rfl <;> rfl)⟩
theorem vk_32 (X : XT) (a : Nat) (q : Nat → Nat) (u : Nat → Nat → Nat) : OkC X a q u 32 (107 + 39) := ⟨_, get_2 (p := 39) (vx_32 X a q u), fun D cl H h => h⟩
theorem vk_33 (X : XT) (a : Nat) (q : Nat → Nat) (u : Nat → Nat → Nat) : OkC X a q u 33 (107 + 40) := ⟨_, get_2 (p := 40) (vx_33 X a q u), fun D cl H h => h⟩
theorem vk_34 (X : XT) (a : Nat) (q : Nat → Nat) (u : Nat → Nat → Nat) : OkC X a q u 34 (107 + 41) := ⟨_, get_2 (p := 41) (vx_34 X a q u), fun D cl H h => h⟩
theorem vk_35 (X : XT) (a : Nat) (q : Nat → Nat) (u : Nat → Nat → Nat) : OkC X a q u 35 (107 + 42) := ⟨_, get_2 (p := 42) (vx_35 X a q u), fun D cl H h => h⟩
theorem vk_36 (X : XT) (a : Nat) (q : Nat → Nat) (u : Nat → Nat → Nat) : OkC X a q u 36 (107 + 43) := ⟨_, get_2 (p := 43) (vx_36 X a q u), fun D cl H h => h⟩
theorem vk_37 (X : XT) (a : Nat) (q : Nat → Nat) (u : Nat → Nat → Nat) : OkC X a q u 37 (107 + 44) := ⟨_, get_2 (p := 44) (vx_37 X a q u), fun D cl H h => h⟩
theorem vk_38 (X : XT) (a : Nat) (q : Nat → Nat) (u : Nat → Nat → Nat) : OkC X a q u 38 (107 + 45) := ⟨_, get_2 (p := 45) (vx_38 X a q u), fun D cl H h => h⟩
theorem vk_39 (X : XT) (a : Nat) (q : Nat → Nat) (u : Nat → Nat → Nat) : OkC X a q u 39 (107 + 46) := ⟨_, get_2 (p := 46) (vx_39 X a q u), fun D cl H h => h⟩
theorem vk_40 (X : XT) (a : Nat) (q : Nat → Nat) (u : Nat → Nat → Nat) : OkC X a q u 40 (107 + 47) := ⟨_, get_2 (p := 47) (vx_40 X a q u), fun D cl H h => h⟩
theorem vk_41 (X : XT) (a : Nat) (q : Nat → Nat) (u : Nat → Nat → Nat) : OkC X a q u 41 (107 + 48) := ⟨_, get_2 (p := 48) (vx_41 X a q u), fun D cl H h => h⟩
theorem vk_42 (X : XT) (a : Nat) (q : Nat → Nat) (u : Nat → Nat → Nat) : OkC X a q u 42 (107 + 49) := ⟨_, get_2 (p := 49) (vx_42 X a q u), fun D cl H h => h⟩
theorem vk_43 (X : XT) (a : Nat) (q : Nat → Nat) (u : Nat → Nat → Nat) : OkC X a q u 43 (107 + 50) := ⟨_, get_2 (p := 50) (vx_43 X a q u), fun D cl H h => h⟩
theorem vk_44 (X : XT) (a : Nat) (q : Nat → Nat) (u : Nat → Nat → Nat) : OkC X a q u 44 (107 + 51) := ⟨_, get_2 (p := 51) (vx_44 X a q u), fun D cl H h => h⟩
theorem vk_45 (X : XT) (a : Nat) (q : Nat → Nat) (u : Nat → Nat → Nat) : OkC X a q u 45 (107 + 52) := ⟨_, get_2 (p := 52) (vx_45 X a q u), fun D cl H h => h⟩
theorem vk_46 (X : XT) (a : Nat) (q : Nat → Nat) (u : Nat → Nat → Nat) : OkC X a q u 46 (107 + 53) := ⟨_, get_2 (p := 53) (vx_46 X a q u), fun D cl H h => h⟩
theorem vk_47 (X : XT) (a : Nat) (q : Nat → Nat) (u : Nat → Nat → Nat) : OkC X a q u 47 (107 + 54) := ⟨_, get_2 (p := 54) (vx_47 X a q u), fun D cl H h => h⟩
theorem vk_48 (X : XT) (a : Nat) (q : Nat → Nat) (u : Nat → Nat → Nat) : OkC X a q u 48 (107 + 5) := ⟨_, get_2 (p := 5) (vx_48 X a q u), fun D cl H h => h⟩
theorem vk_49 (X : XT) (a : Nat) (q : Nat → Nat) (u : Nat → Nat → Nat) : OkC X a q u 49 (107 + 6) := ⟨_, get_2 (p := 6) (vx_49 X a q u), fun D cl H h => h⟩
theorem vk_50 (X : XT) (a : Nat) (q : Nat → Nat) (u : Nat → Nat → Nat) : OkC X a q u 50 (107 + 7) := ⟨_, get_2 (p := 7) (vx_50 X a q u), fun D cl H h => h⟩
theorem vk_51 (X : XT) (a : Nat) (q : Nat → Nat) (u : Nat → Nat → Nat) : OkC X a q u 51 (107 + 8) := ⟨_, get_2 (p := 8) (vx_51 X a q u), fun D cl H h => h⟩
theorem vk_52 (X : XT) (a : Nat) (q : Nat → Nat) (u : Nat → Nat → Nat) : OkC X a q u 52 (107 + 9) := ⟨_, get_2 (p := 9) (vx_52 X a q u), fun D cl H h => h⟩
theorem vk_53 (X : XT) (a : Nat) (q : Nat → Nat) (u : Nat → Nat → Nat) : OkC X a q u 53 (107 + 10) := ⟨_, get_2 (p := 10) (vx_53 X a q u), fun D cl H h => h⟩
theorem vk_54 (X : XT) (a : Nat) (q : Nat → Nat) (u : Nat → Nat → Nat) : OkC X a q u 54 (107 + 11) := ⟨_, get_2 (p := 11) (vx_54 X a q u), fun D cl H h => h⟩
theorem vk_55 (X : XT) (a : Nat) (q : Nat → Nat) (u : Nat → Nat → Nat) : OkC X a q u 55 (107 + 12) := ⟨_, get_2 (p := 12) (vx_55 X a q u), fun D cl H h => h⟩
theorem vk_56 (X : XT) (a : Nat) (q : Nat → Nat) (u : Nat → Nat → Nat) : OkC X a q u 56 (107 + 13) := ⟨_, get_2 (p := 13) (vx_56 X a q u), fun D cl H h => h⟩
theorem vk_57 (X : XT) (a : Nat) (q : Nat → Nat) (u : Nat → Nat → Nat) : OkC X a q u 57 (107 + 14) := ⟨_, get_2 (p := 14) (vx_57 X a q u), fun D cl H h => h⟩
theorem vk_58 (X : XT) (a : Nat) (q : Nat → Nat) (u : Nat → Nat → Nat) : OkC X a q u 58 (107 + 15) := ⟨_, get_2 (p := 15) (vx_58 X a q u), fun D cl H h => h⟩
theorem vk_59 (X : XT) (a : Nat) (q : Nat → Nat) (u : Nat → Nat → Nat) : OkC X a q u 59 (107 + 16) := ⟨_, get_2 (p := 16) (vx_59 X a q u), fun D cl H h => h⟩
theorem vk_60 (X : XT) (a : Nat) (q : Nat → Nat) (u : Nat → Nat → Nat) : OkC X a q u 60 (107 + 17) := ⟨_, get_2 (p := 17) (vx_60 X a q u), fun D cl H h => h⟩
theorem vk_61 (X : XT) (a : Nat) (q : Nat → Nat) (u : Nat → Nat → Nat) : OkC X a q u 61 (107 + 18) := ⟨_, get_2 (p := 18) (vx_61 X a q u), fun D cl H h => h⟩
theorem vk_62 (X : XT) (a : Nat) (q : Nat → Nat) (u : Nat → Nat → Nat) : OkC X a q u 62 (107 + 19) := ⟨_, get_2 (p := 19) (vx_62 X a q u), fun D cl H h => h⟩
theorem vk_63 (X : XT) (a : Nat) (q : Nat → Nat) (u : Nat → Nat → Nat) : OkC X a q u 63 (107 + 20) := ⟨_, get_2 (p := 20) (vx_63 X a q u), fun D cl H h => h⟩
theorem vk_64 (X : XT) (a : Nat) (q : Nat → Nat) (u : Nat → Nat → Nat) : OkC X a q u 64 (107 + 21) := ⟨_, get_2 (p := 21) (vx_64 X a q u), fun D cl H h => h⟩
theorem vk_65 (X : XT) (a : Nat) (q : Nat → Nat) (u : Nat → Nat → Nat) : OkC X a q u 65 (107 + 22) := ⟨_, get_2 (p := 22) (vx_65 X a q u), fun D cl H h => h⟩
theorem vk_66 (X : XT) (a : Nat) (q : Nat → Nat) (u : Nat → Nat → Nat) : OkC X a q u 66 (107 + 23) := ⟨_, get_2 (p := 23) (vx_66 X a q u), fun D cl H h => h⟩
theorem vk_67 (X : XT) (a : Nat) (q : Nat → Nat) (u : Nat → Nat → Nat) : OkC X a q u 67 (107 + 24) := ⟨_, get_2 (p := 24) (vx_67 X a q u), fun D cl H h => h⟩
theorem vk_68 (X : XT) (a : Nat) (q : Nat → Nat) (u : Nat → Nat → Nat) : OkC X a q u 68 (107 + 25) := ⟨_, get_2 (p := 25) (vx_68 X a q u), fun D cl H h => h⟩
theorem vk_69 (X : XT) (a : Nat) (q : Nat → Nat) (u : Nat → Nat → Nat) : OkC X a q u 69 (107 + 26) := ⟨_, get_2 (p := 26) (vx_69 X a q u), fun D cl H h => h⟩
theorem vk_70 (X : XT) (a : Nat) (q : Nat → Nat) (u : Nat → Nat → Nat) : OkC X a q u 70 (107 + 27) := ⟨_, get_2 (p := 27) (vx_70 X a q u), fun D cl H h => h⟩
theorem vk_71 (X : XT) (a : Nat) (q : Nat → Nat) (u : Nat → Nat → Nat) : OkC X a q u 71 (107 + 28) := ⟨_, get_2 (p := 28) (vx_71 X a q u), fun D cl H h => h⟩
theorem vk_72 (X : XT) (a : Nat) (q : Nat → Nat) (u : Nat → Nat → Nat) : OkC X a q u 72 (107 + 29) := ⟨_, get_2 (p := 29) (vx_72 X a q u), fun D cl H h => h⟩
theorem vk_73 (X : XT) (a : Nat) (q : Nat → Nat) (u : Nat → Nat → Nat) : OkC X a q u 73 (107 + 30) := ⟨_, get_2 (p := 30) (vx_73 X a q u), fun D cl H h => h⟩
theorem vk_74 (X : XT) (a : Nat) (q : Nat → Nat) (u : Nat → Nat → Nat) : OkC X a q u 74 (107 + 31) := ⟨_, get_2 (p := 31) (vx_74 X a q u), fun D cl H h => h⟩
theorem vk_75 (X : XT) (a : Nat) (q : Nat → Nat) (u : Nat → Nat → Nat) : OkC X a q u 75 (107 + 32) := ⟨_, get_2 (p := 32) (vx_75 X a q u), fun D cl H h => h⟩
theorem vk_76 (X : XT) (a : Nat) (q : Nat → Nat) (u : Nat → Nat → Nat) : OkC X a q u 76 (107 + 33) := ⟨_, get_2 (p := 33) (vx_76 X a q u), fun D cl H h => h⟩
theorem vk_77 (X : XT) (a : Nat) (q : Nat → Nat) (u : Nat → Nat → Nat) : OkC X a q u 77 (107 + 34) := ⟨_, get_2 (p := 34) (vx_77 X a q u), fun D cl H h => h⟩
theorem vk_78 (X : XT) (a : Nat) (q : Nat → Nat) (u : Nat → Nat → Nat) : OkC X a q u 78 (107 + 35) := ⟨_, get_2 (p := 35) (vx_78 X a q u), fun D cl H h => h⟩
theorem vk_79 (X : XT) (a : Nat) (q : Nat → Nat) (u : Nat → Nat → Nat) : OkC X a q u 79 (107 + 36) := ⟨_, get_2 (p := 36) (vx_79 X a q u), fun D cl H h => h⟩
theorem vk_80 (X : XT) (a : Nat) (q : Nat → Nat) (u : Nat → Nat → Nat) : OkC X a q u 80 (107 + 37) := ⟨_, get_2 (p := 37) (vx_80 X a q u), fun D cl H h => h⟩
theorem vk_81 (X : XT) (a : Nat) (q : Nat → Nat) (u : Nat → Nat → Nat) : OkC X a q u 81 (107 + 38) := ⟨_, get_2 (p := 38) (vx_81 X a q u), fun D cl H h => h⟩
theorem vk_82 (X : XT) (a : Nat) (q : Nat → Nat) (u : Nat → Nat → Nat) : OkC X a q u 82 (27 + 0) := ⟨_, get_C (p := 0) (vx_82 X a q u), fun D cl H h => h⟩
theorem vk_83 (X : XT) (a : Nat) (q : Nat → Nat) (u : Nat → Nat → Nat) : OkC X a q u 83 (27 + 1) := ⟨_, get_C (p := 1) (vx_83 X a q u), fun D cl H h => h⟩
theorem vk_84 (X : XT) (a : Nat) (q : Nat → Nat) (u : Nat → Nat → Nat) : OkC X a q u 84 (27 + 2) := ⟨_, get_C (p := 2) (vx_84 X a q u), fun D cl H h => h⟩
theorem vk_85 (X : XT) (a : Nat) (q : Nat → Nat) (u : Nat → Nat → Nat) : OkC X a q u 85 (27 + 3) := ⟨_, get_C (p := 3) (vx_85 X a q u), fun D cl H h => h⟩
theorem vk_86 (X : XT) (a : Nat) (q : Nat → Nat) (u : Nat → Nat → Nat) : OkC X a q u 86 (27 + 4) := ⟨_, get_C (p := 4) (vx_86 X a q u), fun D cl H h => h⟩
theorem vk_87 (X : XT) (a : Nat) (q : Nat → Nat) (u : Nat → Nat → Nat) : OkC X a q u 87 (27 + 5) := ⟨_, get_C (p := 5) (vx_87 X a q u), fun D cl H h => h⟩
theorem vk_88 (X : XT) (a : Nat) (q : Nat → Nat) (u : Nat → Nat → Nat) : OkC X a q u 88 (27 + 6) := ⟨_, get_C (p := 6) (vx_88 X a q u), fun D cl H h => h⟩
theorem vk_89 (X : XT) (a : Nat) (q : Nat → Nat) (u : Nat → Nat → Nat) : OkC X a q u 89 (27 + 7) := ⟨_, get_C (p := 7) (vx_89 X a q u), fun D cl H h => h⟩
theorem vk_90 (X : XT) (a : Nat) (q : Nat → Nat) (u : Nat → Nat → Nat) : OkC X a q u 90 (27 + 8) := ⟨_, get_C (p := 8) (vx_90 X a q u), fun D cl H h => h⟩
theorem vk_91 (X : XT) (a : Nat) (q : Nat → Nat) (u : Nat → Nat → Nat) : OkC X a q u 91 (27 + 9) := ⟨_, get_C (p := 9) (vx_91 X a q u), fun D cl H h => h⟩
theorem vk_92 (X : XT) (a : Nat) (q : Nat → Nat) (u : Nat → Nat → Nat) : OkC X a q u 92 (27 + 10) := ⟨_, get_C (p := 10) (vx_92 X a q u), fun D cl H h => h⟩
theorem vk_93 (X : XT) (a : Nat) (q : Nat → Nat) (u : Nat → Nat → Nat) : OkC X a q u 93 (27 + 11) := ⟨_, get_C (p := 11) (vx_93 X a q u), fun D cl H h => h⟩
theorem vk_94 (X : XT) (a : Nat) (q : Nat → Nat) (u : Nat → Nat → Nat) : OkC X a q u 94 (27 + 12) := ⟨_, get_C (p := 12) (vx_94 X a q u), fun D cl H h => h⟩
theorem vk_95 (X : XT) (a : Nat) (q : Nat → Nat) (u : Nat → Nat → Nat) : OkC X a q u 95 (27 + 13) := ⟨_, get_C (p := 13) (vx_95 X a q u), fun D cl H h => h⟩
theorem vk_96 (X : XT) (a : Nat) (q : Nat → Nat) (u : Nat → Nat → Nat) : OkC X a q u 96 (27 + 14) := ⟨_, get_C (p := 14) (vx_96 X a q u), fun D cl H h => h⟩
theorem vk_97 (X : XT) (a : Nat) (q : Nat → Nat) (u : Nat → Nat → Nat) : OkC X a q u 97 (27 + 15) := ⟨_, get_C (p := 15) (vx_97 X a q u), fun D cl H h => h⟩
theorem vk_98 (X : XT) (a : Nat) (q : Nat → Nat) (u : Nat → Nat → Nat) : OkC X a q u 98 (27 + 16) := ⟨_, get_C (p := 16) (vx_98 X a q u), fun D cl H h => h⟩
theorem vk_99 (X : XT) (a : Nat) (q : Nat → Nat) (u : Nat → Nat → Nat) : OkC X a q u 99 (27 + 17) := ⟨_, get_C (p := 17) (vx_99 X a q u), fun D cl H h => h⟩
theorem vk_100 (X : XT) (a : Nat) (q : Nat → Nat) (u : Nat → Nat → Nat) : OkC X a q u 100 (27 + 18) := ⟨_, get_C (p := 18) (vx_100 X a q u), fun D cl H h => h⟩
theorem vk_101 (X : XT) (a : Nat) (q : Nat → Nat) (u : Nat → Nat → Nat) : OkC X a q u 101 (27 + 19) := ⟨_, get_C (p := 19) (vx_101 X a q u), fun D cl H h => h⟩
theorem vk_102 (X : XT) (a : Nat) (q : Nat → Nat) (u : Nat → Nat → Nat) : OkC X a q u 102 (27 + 20) := ⟨_, get_C (p := 20) (vx_102 X a q u), fun D cl H h => h⟩
theorem vk_103 (X : XT) (a : Nat) (q : Nat → Nat) (u : Nat → Nat → Nat) : OkC X a q u 103 (27 + 21) := ⟨_, get_C (p := 21) (vx_103 X a q u), fun D cl H h => h⟩
theorem vk_104 (X : XT) (a : Nat) (q : Nat → Nat) (u : Nat → Nat → Nat) : OkC X a q u 104 (27 + 22) := ⟨_, get_C (p := 22) (vx_104 X a q u), fun D cl H h => h⟩
theorem vk_105 (X : XT) (a : Nat) (q : Nat → Nat) (u : Nat → Nat → Nat) : OkC X a q u 105 (27 + 23) := ⟨_, get_C (p := 23) (vx_105 X a q u), fun D cl H h => h⟩
theorem vk_106 (X : XT) (a : Nat) (q : Nat → Nat) (u : Nat → Nat → Nat) : OkC X a q u 106 (27 + 24) := ⟨_, get_C (p := 24) (vx_106 X a q u), fun D cl H h => h⟩
theorem vk_107 (X : XT) (a : Nat) (q : Nat → Nat) (u : Nat → Nat → Nat) : OkC X a q u 107 (27 + 25) := ⟨_, get_C (p := 25) (vx_107 X a q u), fun D cl H h => h⟩
theorem vk_108 (X : XT) (a : Nat) (q : Nat → Nat) (u : Nat → Nat → Nat) : OkC X a q u 108 (27 + 26) := ⟨_, get_C (p := 26) (vx_108 X a q u), fun D cl H h => h⟩
theorem vk_109 (X : XT) (a : Nat) (q : Nat → Nat) (u : Nat → Nat → Nat) : OkC X a q u 109 (27 + 27) := ⟨_, get_C (p := 27) (vx_109 X a q u), fun D cl H h => h⟩
theorem vk_110 (X : XT) (a : Nat) (q : Nat → Nat) (u : Nat → Nat → Nat) : OkC X a q u 110 (27 + 28) := ⟨_, get_C (p := 28) (vx_110 X a q u), fun D cl H h => h⟩
theorem vk_111 (X : XT) (a : Nat) (q : Nat → Nat) (u : Nat → Nat → Nat) : OkC X a q u 111 (27 + 29) := ⟨_, get_C (p := 29) (vx_111 X a q u), fun D cl H h => h⟩
theorem vk_112 (X : XT) (a : Nat) (q : Nat → Nat) (u : Nat → Nat → Nat) : OkC X a q u 112 (27 + 30) := ⟨_, get_C (p := 30) (vx_112 X a q u), fun D cl H h => h⟩
theorem vk_113 (X : XT) (a : Nat) (q : Nat → Nat) (u : Nat → Nat → Nat) : OkC X a q u 113 (27 + 31) := ⟨_, get_C (p := 31) (vx_113 X a q u), fun D cl H h => h⟩
theorem vk_114 (X : XT) (a : Nat) (q : Nat → Nat) (u : Nat → Nat → Nat) : OkC X a q u 114 (27 + 32) := ⟨_, get_C (p := 32) (vx_114 X a q u), fun D cl H h => h⟩
theorem vk_115 (X : XT) (a : Nat) (q : Nat → Nat) (u : Nat → Nat → Nat) : OkC X a q u 115 (27 + 33) := ⟨_, get_C (p := 33) (vx_115 X a q u), fun D cl H h => h⟩
theorem vk_116 (X : XT) (a : Nat) (q : Nat → Nat) (u : Nat → Nat → Nat) : OkC X a q u 116 (27 + 34) := ⟨_, get_C (p := 34) (vx_116 X a q u), fun D cl H h => h⟩
theorem vk_117 (X : XT) (a : Nat) (q : Nat → Nat) (u : Nat → Nat → Nat) : OkC X a q u 117 (27 + 35) := ⟨_, get_C (p := 35) (vx_117 X a q u), fun D cl H h => h⟩
theorem vk_118 (X : XT) (a : Nat) (q : Nat → Nat) (u : Nat → Nat → Nat) : OkC X a q u 118 (27 + 36) := ⟨_, get_C (p := 36) (vx_118 X a q u), fun D cl H h => h⟩
theorem vk_119 (X : XT) (a : Nat) (q : Nat → Nat) (u : Nat → Nat → Nat) : OkC X a q u 119 (27 + 37) := ⟨_, get_C (p := 37) (vx_119 X a q u), fun D cl H h => h⟩
theorem vk_120 (X : XT) (a : Nat) (q : Nat → Nat) (u : Nat → Nat → Nat) : OkC X a q u 120 (27 + 38) := ⟨_, get_C (p := 38) (vx_120 X a q u), fun D cl H h => h⟩
theorem vk_121 (X : XT) (a : Nat) (q : Nat → Nat) (u : Nat → Nat → Nat) : OkC X a q u 121 (27 + 39) := ⟨_, get_C (p := 39) (vx_121 X a q u), fun D cl H h => h⟩
theorem vk_122 (X : XT) (a : Nat) (q : Nat → Nat) (u : Nat → Nat → Nat) : OkC X a q u 122 (27 + 40) := ⟨_, get_C (p := 40) (vx_122 X a q u), fun D cl H h => h⟩
theorem vk_123 (X : XT) (a : Nat) (q : Nat → Nat) (u : Nat → Nat → Nat) : OkC X a q u 123 (27 + 41) := ⟨_, get_C (p := 41) (vx_123 X a q u), fun D cl H h => h⟩
theorem vk_124 (X : XT) (a : Nat) (q : Nat → Nat) (u : Nat → Nat → Nat) : OkC X a q u 124 (27 + 42) := ⟨_, get_C (p := 42) (vx_124 X a q u), fun D cl H h => h⟩
theorem vk_125 (X : XT) (a : Nat) (q : Nat → Nat) (u : Nat → Nat → Nat) : OkC X a q u 125 (27 + 43) := ⟨_, get_C (p := 43) (vx_125 X a q u), fun D cl H h => h⟩
theorem vk_126 (X : XT) (a : Nat) (q : Nat → Nat) (u : Nat → Nat → Nat) : OkC X a q u 126 (27 + 44) := ⟨_, get_C (p := 44) (vx_126 X a q u), fun D cl H h => h⟩
theorem vk_127 (X : XT) (a : Nat) (q : Nat → Nat) (u : Nat → Nat → Nat) : OkC X a q u 127 (27 + 45) := ⟨_, get_C (p := 45) (vx_127 X a q u), fun D cl H h => h⟩
theorem vk_128 (X : XT) (a : Nat) (q : Nat → Nat) (u : Nat → Nat → Nat) : OkC X a q u 128 (27 + 46) := ⟨_, get_C (p := 46) (vx_128 X a q u), fun D cl H h => h⟩
theorem vk_129 (X : XT) (a : Nat) (q : Nat → Nat) (u : Nat → Nat → Nat) : OkC X a q u 129 (27 + 47) := ⟨_, get_C (p := 47) (vx_129 X a q u), fun D cl H h => h⟩
theorem vk_130 (X : XT) (a : Nat) (q : Nat → Nat) (u : Nat → Nat → Nat) : OkC X a q u 130 (27 + 48) := ⟨_, get_C (p := 48) (vx_130 X a q u), fun D cl H h => h⟩
theorem vk_131 (X : XT) (a : Nat) (q : Nat → Nat) (u : Nat → Nat → Nat) : OkC X a q u 131 (27 + 49) := ⟨_, get_C (p := 49) (vx_131 X a q u), fun D cl H h => h⟩
theorem vk_132 (X : XT) (a : Nat) (q : Nat → Nat) (u : Nat → Nat → Nat) : OkC X a q u 132 (27 + 50) := ⟨_, get_C (p := 50) (vx_132 X a q u), fun D cl H h => h⟩
theorem vk_133 (X : XT) (a : Nat) (q : Nat → Nat) (u : Nat → Nat → Nat) : OkC X a q u 133 (27 + 51) := ⟨_, get_C (p := 51) (vx_133 X a q u), fun D cl H h => h⟩
theorem vk_134 (X : XT) (a : Nat) (q : Nat → Nat) (u : Nat → Nat → Nat) : OkC X a q u 134 (27 + 52) := ⟨_, get_C (p := 52) (vx_134 X a q u), fun D cl H h => h⟩
theorem vk_135 (X : XT) (a : Nat) (q : Nat → Nat) (u : Nat → Nat → Nat) : OkC X a q u 135 (27 + 53) := ⟨_, get_C (p := 53) (vx_135 X a q u), fun D cl H h => h⟩
theorem vk_136 (X : XT) (a : Nat) (q : Nat → Nat) (u : Nat → Nat → Nat) : OkC X a q u 136 (27 + 54) := ⟨_, get_C (p := 54) (vx_136 X a q u), fun D cl H h => h⟩
theorem vk_137 (X : XT) (a : Nat) (q : Nat → Nat) (u : Nat → Nat → Nat) : OkC X a q u 137 (27 + 55) := ⟨_, get_C (p := 55) (vx_137 X a q u), fun D cl H h => h⟩
theorem vk_138 (X : XT) (a : Nat) (q : Nat → Nat) (u : Nat → Nat → Nat) : OkC X a q u 138 (27 + 56) := ⟨_, get_C (p := 56) (vx_138 X a q u), fun D cl H h => h⟩
theorem vk_139 (X : XT) (a : Nat) (q : Nat → Nat) (u : Nat → Nat → Nat) : OkC X a q u 139 (27 + 57) := ⟨_, get_C (p := 57) (vx_139 X a q u), fun D cl H h => h⟩
theorem vk_140 (X : XT) (a : Nat) (q : Nat → Nat) (u : Nat → Nat → Nat) : OkC X a q u 140 (27 + 58) := ⟨_, get_C (p := 58) (vx_140 X a q u), fun D cl H h => h⟩
theorem vk_141 (X : XT) (a : Nat) (q : Nat → Nat) (u : Nat → Nat → Nat) : OkC X a q u 141 (27 + 59) := ⟨_, get_C (p := 59) (vx_141 X a q u), fun D cl H h => h⟩
theorem vk_142 (X : XT) (a : Nat) (q : Nat → Nat) (u : Nat → Nat → Nat) : OkC X a q u 142 (27 + 60) := ⟨_, get_C (p := 60) (vx_142 X a q u), fun D cl H h => h⟩
theorem vk_143 (X : XT) (a : Nat) (q : Nat → Nat) (u : Nat → Nat → Nat) : OkC X a q u 143 (27 + 61) := ⟨_, get_C (p := 61) (vx_143 X a q u), fun D cl H h => h⟩
theorem vk_144 (X : XT) (a : Nat) (q : Nat → Nat) (u : Nat → Nat → Nat) : OkC X a q u 144 (27 + 62) := ⟨_, get_C (p := 62) (vx_144 X a q u), fun D cl H h => h⟩
theorem vk_145 (X : XT) (a : Nat) (q : Nat → Nat) (u : Nat → Nat → Nat) : OkC X a q u 145 (27 + 63) := ⟨_, get_C (p := 63) (vx_145 X a q u), fun D cl H h => h⟩
theorem vk_146 (X : XT) (a : Nat) (q : Nat → Nat) (u : Nat → Nat → Nat) : OkC X a q u 146 (27 + 64) := ⟨_, get_C (p := 64) (vx_146 X a q u), fun D cl H h => h⟩
theorem vk_147 (X : XT) (a : Nat) (q : Nat → Nat) (u : Nat → Nat → Nat) : OkC X a q u 147 (27 + 65) := ⟨_, get_C (p := 65) (vx_147 X a q u), fun D cl H h => h⟩
theorem vk_148 (X : XT) (a : Nat) (q : Nat → Nat) (u : Nat → Nat → Nat) : OkC X a q u 148 (27 + 66) := ⟨_, get_C (p := 66) (vx_148 X a q u), fun D cl H h => h⟩
theorem vk_149 (X : XT) (a : Nat) (q : Nat → Nat) (u : Nat → Nat → Nat) : OkC X a q u 149 (27 + 67) := ⟨_, get_C (p := 67) (vx_149 X a q u), fun D cl H h => h⟩
theorem vk_150 (X : XT) (a : Nat) (q : Nat → Nat) (u : Nat → Nat → Nat) : OkC X a q u 150 (27 + 68) := ⟨_, get_C (p := 68) (vx_150 X a q u), fun D cl H h => h⟩
theorem vk_151 (X : XT) (a : Nat) (q : Nat → Nat) (u : Nat → Nat → Nat) : OkC X a q u 151 (27 + 69) := ⟨_, get_C (p := 69) (vx_151 X a q u), fun D cl H h => h⟩
theorem vk_152 (X : XT) (a : Nat) (q : Nat → Nat) (u : Nat → Nat → Nat) : OkC X a q u 152 (27 + 70) := ⟨_, get_C (p := 70) (vx_152 X a q u), fun D cl H h => h⟩
theorem vk_153 (X : XT) (a : Nat) (q : Nat → Nat) (u : Nat → Nat → Nat) : OkC X a q u 153 (27 + 71) := ⟨_, get_C (p := 71) (vx_153 X a q u), fun D cl H h => h⟩
theorem vk_154 (X : XT) (a : Nat) (q : Nat → Nat) (u : Nat → Nat → Nat) : OkC X a q u 154 (27 + 72) := ⟨_, get_C (p := 72) (vx_154 X a q u), fun D cl H h => h⟩
theorem vk_155 (X : XT) (a : Nat) (q : Nat → Nat) (u : Nat → Nat → Nat) : OkC X a q u 155 (27 + 73) := ⟨_, get_C (p := 73) (vx_155 X a q u), fun D cl H h => h⟩
theorem vk_156 (X : XT) (a : Nat) (q : Nat → Nat) (u : Nat → Nat → Nat) : OkC X a q u 156 (27 + 74) := ⟨_, get_C (p := 74) (vx_156 X a q u), fun D cl H h => h⟩
theorem vk_157 (X : XT) (a : Nat) (q : Nat → Nat) (u : Nat → Nat → Nat) : OkC X a q u 157 (27 + 75) := ⟨_, get_C (p := 75) (vx_157 X a q u), fun D cl H h => h⟩
theorem vk_158 (X : XT) (a : Nat) (q : Nat → Nat) (u : Nat → Nat → Nat) : OkC X a q u 158 (27 + 76) := ⟨_, get_C (p := 76) (vx_158 X a q u), fun D cl H h => h⟩
theorem vk_159 (X : XT) (a : Nat) (q : Nat → Nat) (u : Nat → Nat → Nat) : OkC X a q u 159 (27 + 77) := ⟨_, get_C (p := 77) (vx_159 X a q u), fun D cl H h => h⟩
theorem vk_160 (X : XT) (a : Nat) (q : Nat → Nat) (u : Nat → Nat → Nat) : OkC X a q u 160 (27 + 78) := ⟨_, get_C (p := 78) (vx_160 X a q u), fun D cl H h => h⟩
theorem vk_161 (X : XT) (a : Nat) (q : Nat → Nat) (u : Nat → Nat → Nat) : OkC X a q u 161 (27 + 79) := ⟨_, get_C (p := 79) (vx_161 X a q u), fun D cl H h => h⟩
theorem vy_1 (X : XT) (a : Nat) (q : Nat → Nat) (u : Nat → Nat → Nat) : ∀ i, i < 27 → OkC X a q u i (posC.getD i 0) := (lt_succ_of (P := fun i => OkC X a q u i (posC.getD i 0)) (n := 26) (lt_succ_of (P := fun i => OkC X a q u i (posC.getD i 0)) (n := 25) (lt_succ_of (P := fun i => OkC X a q u i (posC.getD i 0)) (n := 24) (lt_succ_of (P := fun i => OkC X a q u i (posC.getD i 0)) (n := 23) (lt_succ_of (P := fun i => OkC X a q u i (posC.getD i 0)) (n := 22) (lt_succ_of (P := fun i => OkC X a q u i (posC.getD i 0)) (n := 21) (lt_succ_of (P := fun i => OkC X a q u i (posC.getD i 0)) (n := 20) (lt_succ_of (P := fun i => OkC X a q u i (posC.getD i 0)) (n := 19) (lt_succ_of (P := fun i => OkC X a q u i (posC.getD i 0)) (n := 18) (lt_succ_of (P := fun i => OkC X a q u i (posC.getD i 0)) (n := 17) (lt_succ_of (P := fun i => OkC X a q u i (posC.getD i 0)) (n := 16) (lt_succ_of (P := fun i => OkC X a q u i (posC.getD i 0)) (n := 15) (lt_succ_of (P := fun i => OkC X a q u i (posC.getD i 0)) (n := 14) (lt_succ_of (P := fun i => OkC X a q u i (posC.getD i 0)) (n := 13) (lt_succ_of (P := fun i => OkC X a q u i (posC.getD i 0)) (n := 12) (lt_succ_of (P := fun i => OkC X a q u i (posC.getD i 0)) (n := 11) (lt_succ_of (P := fun i => OkC X a q u i (posC.getD i 0)) (n := 10) (lt_succ_of (P := fun i => OkC X a q u i (posC.getD i 0)) (n := 9) (lt_succ_of (P := fun i => OkC X a q u i (posC.getD i 0)) (n := 8) (lt_succ_of (P := fun i => OkC X a q u i (posC.getD i 0)) (n := 7) (lt_succ_of (P := fun i => OkC X a q u i (posC.getD i 0)) (n := 6) (lt_succ_of (P := fun i => OkC X a q u i (posC.getD i 0)) (n := 5) (lt_succ_of (P := fun i => OkC X a q u i (posC.getD i 0)) (n := 4) (lt_succ_of (P := fun i => OkC X a q u i (posC.getD i 0)) (n := 3) (lt_succ_of (P := fun i => OkC X a q u i (posC.getD i 0)) (n := 2) (lt_succ_of (P := fun i => OkC X a q u i (posC.getD i 0)) (n := 1) (lt_succ_of (P := fun i => OkC X a q u i (posC.getD i 0)) (n := 0) (fun i hi => absurd hi (Nat.not_lt_zero i)) (vk_0 X a q u)) (vk_1 X a q u)) (vk_2 X a q u)) (vk_3 X a q u)) (vk_4 X a q u)) (vk_5 X a q u)) (vk_6 X a q u)) (vk_7 X a q u)) (vk_8 X a q u)) (vk_9 X a q u)) (vk_10 X a q u)) (vk_11 X a q u)) (vk_12 X a q u)) (vk_13 X a q u)) (vk_14 X a q u)) (vk_15 X a q u)) (vk_16 X a q u)) (vk_17 X a q u)) (vk_18 X a q u)) (vk_19 X a q u)) (vk_20 X a q u)) (vk_21 X a q u)) (vk_22 X a q u)) (vk_23 X a q u)) (vk_24 X a q u)) (vk_25 X a q u)) (vk_26 X a q u))
theorem vy_2 (X : XT) (a : Nat) (q : Nat → Nat) (u : Nat → Nat → Nat) : ∀ i, i < 54 → OkC X a q u i (posC.getD i 0) := (lt_succ_of (P := fun i => OkC X a q u i (posC.getD i 0)) (n := 53) (lt_succ_of (P := fun i => OkC X a q u i (posC.getD i 0)) (n := 52) (lt_succ_of (P := fun i => OkC X a q u i (posC.getD i 0)) (n := 51) (lt_succ_of (P := fun i => OkC X a q u i (posC.getD i 0)) (n := 50) (lt_succ_of (P := fun i => OkC X a q u i (posC.getD i 0)) (n := 49) (lt_succ_of (P := fun i => OkC X a q u i (posC.getD i 0)) (n := 48) (lt_succ_of (P := fun i => OkC X a q u i (posC.getD i 0)) (n := 47) (lt_succ_of (P := fun i => OkC X a q u i (posC.getD i 0)) (n := 46) (lt_succ_of (P := fun i => OkC X a q u i (posC.getD i 0)) (n := 45) (lt_succ_of (P := fun i => OkC X a q u i (posC.getD i 0)) (n := 44) (lt_succ_of (P := fun i => OkC X a q u i (posC.getD i 0)) (n := 43) (lt_succ_of (P := fun i => OkC X a q u i (posC.getD i 0)) (n := 42) (lt_succ_of (P := fun i => OkC X a q u i (posC.getD i 0)) (n := 41) (lt_succ_of (P := fun i => OkC X a q u i (posC.getD i 0)) (n := 40) (lt_succ_of (P := fun i => OkC X a q u i (posC.getD i 0)) (n := 39) (lt_succ_of (P := fun i => OkC X a q u i (posC.getD i 0)) (n := 38) (lt_succ_of (P := fun i => OkC X a q u i (posC.getD i 0)) (n := 37) (lt_succ_of (P := fun i => OkC X a q u i (posC.getD i 0)) (n := 36) (lt_succ_of (P := fun i => OkC X a q u i (posC.getD i 0)) (n := 35) (lt_succ_of (P := fun i => OkC X a q u i (posC.getD i 0)) (n := 34) (lt_succ_of (P := fun i => OkC X a q u i (posC.getD i 0)) (n := 33) (lt_succ_of (P := fun i => OkC X a q u i (posC.getD i 0)) (n := 32) (lt_succ_of (P := fun i => OkC X a q u i (posC.getD i 0)) (n := 31) (lt_succ_of (P := fun i => OkC X a q u i (posC.getD i 0)) (n := 30) (lt_succ_of (P := fun i => OkC X a q u i (posC.getD i 0)) (n := 29) (lt_succ_of (P := fun i => OkC X a q u i (posC.getD i 0)) (n := 28) (lt_succ_of (P := fun i => OkC X a q u i (posC.getD i 0)) (n := 27) (vy_1 X a q u) (vk_27 X a q u)) (vk_28 X a q u)) (vk_29 X a q u)) (vk_30 X a q u)) (vk_31 X a q u)) (vk_32 X a q u)) (vk_33 X a q u)) (vk_34 X a q u)) (vk_35 X a q u)) (vk_36 X a q u)) (vk_37 X a q u)) (vk_38 X a q u)) (vk_39 X a q u)) (vk_40 X a q u)) (vk_41 X a q u)) (vk_42 X a q u)) (vk_43 X a q u)) (vk_44 X a q u)) (vk_45 X a q u)) (vk_46 X a q u)) (vk_47 X a q u)) (vk_48 X a q u)) (vk_49 X a q u)) (vk_50 X a q u)) (vk_51 X a q u)) (vk_52 X a q u)) (vk_53 X a q u))
theorem vy_3 (X : XT) (a : Nat) (q : Nat → Nat) (u : Nat → Nat → Nat) : ∀ i, i < 81 → OkC X a q u i (posC.getD i 0) := (lt_succ_of (P := fun i => OkC X a q u i (posC.getD i 0)) (n := 80) (lt_succ_of (P := fun i => OkC X a q u i (posC.getD i 0)) (n := 79) (lt_succ_of (P := fun i => OkC X a q u i (posC.getD i 0)) (n := 78) (lt_succ_of (P := fun i => OkC X a q u i (posC.getD i 0)) (n := 77) (lt_succ_of (P := fun i => OkC X a q u i (posC.getD i 0)) (n := 76) (lt_succ_of (P := fun i => OkC X a q u i (posC.getD i 0)) (n := 75) (lt_succ_of (P := fun i => OkC X a q u i (posC.getD i 0)) (n := 74) (lt_succ_of (P := fun i => OkC X a q u i (posC.getD i 0)) (n := 73) (lt_succ_of (P := fun i => OkC X a q u i (posC.getD i 0)) (n := 72) (lt_succ_of (P := fun i => OkC X a q u i (posC.getD i 0)) (n := 71) (lt_succ_of (P := fun i => OkC X a q u i (posC.getD i 0)) (n := 70) (lt_succ_of (P := fun i => OkC X a q u i (posC.getD i 0)) (n := 69) (lt_succ_of (P := fun i => OkC X a q u i (posC.getD i 0)) (n := 68) (lt_succ_of (P := fun i => OkC X a q u i (posC.getD i 0)) (n := 67) (lt_succ_of (P := fun i => OkC X a q u i (posC.getD i 0)) (n := 66) (lt_succ_of (P := fun i => OkC X a q u i (posC.getD i 0)) (n := 65) (lt_succ_of (P := fun i => OkC X a q u i (posC.getD i 0)) (n := 64) (lt_succ_of (P := fun i => OkC X a q u i (posC.getD i 0)) (n := 63) (lt_succ_of (P := fun i => OkC X a q u i (posC.getD i 0)) (n := 62) (lt_succ_of (P := fun i => OkC X a q u i (posC.getD i 0)) (n := 61) (lt_succ_of (P := fun i => OkC X a q u i (posC.getD i 0)) (n := 60) (lt_succ_of (P := fun i => OkC X a q u i (posC.getD i 0)) (n := 59) (lt_succ_of (P := fun i => OkC X a q u i (posC.getD i 0)) (n := 58) (lt_succ_of (P := fun i => OkC X a q u i (posC.getD i 0)) (n := 57) (lt_succ_of (P := fun i => OkC X a q u i (posC.getD i 0)) (n := 56) (lt_succ_of (P := fun i => OkC X a q u i (posC.getD i 0)) (n := 55) (lt_succ_of (P := fun i => OkC X a q u i (posC.getD i 0)) (n := 54) (vy_2 X a q u) (vk_54 X a q u)) (vk_55 X a q u)) (vk_56 X a q u)) (vk_57 X a q u)) (vk_58 X a q u)) (vk_59 X a q u)) (vk_60 X a q u)) (vk_61 X a q u)) (vk_62 X a q u)) (vk_63 X a q u)) (vk_64 X a q u)) (vk_65 X a q u)) (vk_66 X a q u)) (vk_67 X a q u)) (vk_68 X a q u)) (vk_69 X a q u)) (vk_70 X a q u)) (vk_71 X a q u)) (vk_72 X a q u)) (vk_73 X a q u)) (vk_74 X a q u)) (vk_75 X a q u)) (vk_76 X a q u)) (vk_77 X a q u)) (vk_78 X a q u)) (vk_79 X a q u)) (vk_80 X a q u))
theorem vy_4 (X : XT) (a : Nat) (q : Nat → Nat) (u : Nat → Nat → Nat) : ∀ i, i < 108 → OkC X a q u i (posC.getD i 0) := (lt_succ_of (P := fun i => OkC X a q u i (posC.getD i 0)) (n := 107) (lt_succ_of (P := fun i => OkC X a q u i (posC.getD i 0)) (n := 106) (lt_succ_of (P := fun i => OkC X a q u i (posC.getD i 0)) (n := 105) (lt_succ_of (P := fun i => OkC X a q u i (posC.getD i 0)) (n := 104) (lt_succ_of (P := fun i => OkC X a q u i (posC.getD i 0)) (n := 103) (lt_succ_of (P := fun i => OkC X a q u i (posC.getD i 0)) (n := 102) (lt_succ_of (P := fun i => OkC X a q u i (posC.getD i 0)) (n := 101) (lt_succ_of (P := fun i => OkC X a q u i (posC.getD i 0)) (n := 100) (lt_succ_of (P := fun i => OkC X a q u i (posC.getD i 0)) (n := 99) (lt_succ_of (P := fun i => OkC X a q u i (posC.getD i 0)) (n := 98) (lt_succ_of (P := fun i => OkC X a q u i (posC.getD i 0)) (n := 97) (lt_succ_of (P := fun i => OkC X a q u i (posC.getD i 0)) (n := 96) (lt_succ_of (P := fun i => OkC X a q u i (posC.getD i 0)) (n := 95) (lt_succ_of (P := fun i => OkC X a q u i (posC.getD i 0)) (n := 94) (lt_succ_of (P := fun i => OkC X a q u i (posC.getD i 0)) (n := 93) (lt_succ_of (P := fun i => OkC X a q u i (posC.getD i 0)) (n := 92) (lt_succ_of (P := fun i => OkC X a q u i (posC.getD i 0)) (n := 91) (lt_succ_of (P := fun i => OkC X a q u i (posC.getD i 0)) (n := 90) (lt_succ_of (P := fun i => OkC X a q u i (posC.getD i 0)) (n := 89) (lt_succ_of (P := fun i => OkC X a q u i (posC.getD i 0)) (n := 88) (lt_succ_of (P := fun i => OkC X a q u i (posC.getD i 0)) (n := 87) (lt_succ_of (P := fun i => OkC X a q u i (posC.getD i 0)) (n := 86) (lt_succ_of (P := fun i => OkC X a q u i (posC.getD i 0)) (n := 85) (lt_succ_of (P := fun i => OkC X a q u i (posC.getD i 0)) (n := 84) (lt_succ_of (P := fun i => OkC X a q u i (posC.getD i 0)) (n := 83) (lt_succ_of (P := fun i => OkC X a q u i (posC.getD i 0)) (n := 82) (lt_succ_of (P := fun i => OkC X a q u i (posC.getD i 0)) (n := 81) (vy_3 X a q u) (vk_81 X a q u)) (vk_82 X a q u)) (vk_83 X a q u)) (vk_84 X a q u)) (vk_85 X a q u)) (vk_86 X a q u)) (vk_87 X a q u)) (vk_88 X a q u)) (vk_89 X a q u)) (vk_90 X a q u)) (vk_91 X a q u)) (vk_92 X a q u)) (vk_93 X a q u)) (vk_94 X a q u)) (vk_95 X a q u)) (vk_96 X a q u)) (vk_97 X a q u)) (vk_98 X a q u)) (vk_99 X a q u)) (vk_100 X a q u)) (vk_101 X a q u)) (vk_102 X a q u)) (vk_103 X a q u)) (vk_104 X a q u)) (vk_105 X a q u)) (vk_106 X a q u)) (vk_107 X a q u))
theorem vy_5 (X : XT) (a : Nat) (q : Nat → Nat) (u : Nat → Nat → Nat) : ∀ i, i < 135 → OkC X a q u i (posC.getD i 0) := (lt_succ_of (P := fun i => OkC X a q u i (posC.getD i 0)) (n := 134) (lt_succ_of (P := fun i => OkC X a q u i (posC.getD i 0)) (n := 133) (lt_succ_of (P := fun i => OkC X a q u i (posC.getD i 0)) (n := 132) (lt_succ_of (P := fun i => OkC X a q u i (posC.getD i 0)) (n := 131) (lt_succ_of (P := fun i => OkC X a q u i (posC.getD i 0)) (n := 130) (lt_succ_of (P := fun i => OkC X a q u i (posC.getD i 0)) (n := 129) (lt_succ_of (P := fun i => OkC X a q u i (posC.getD i 0)) (n := 128) (lt_succ_of (P := fun i => OkC X a q u i (posC.getD i 0)) (n := 127) (lt_succ_of (P := fun i => OkC X a q u i (posC.getD i 0)) (n := 126) (lt_succ_of (P := fun i => OkC X a q u i (posC.getD i 0)) (n := 125) (lt_succ_of (P := fun i => OkC X a q u i (posC.getD i 0)) (n := 124) (lt_succ_of (P := fun i => OkC X a q u i (posC.getD i 0)) (n := 123) (lt_succ_of (P := fun i => OkC X a q u i (posC.getD i 0)) (n := 122) (lt_succ_of (P := fun i => OkC X a q u i (posC.getD i 0)) (n := 121) (lt_succ_of (P := fun i => OkC X a q u i (posC.getD i 0)) (n := 120) (lt_succ_of (P := fun i => OkC X a q u i (posC.getD i 0)) (n := 119) (lt_succ_of (P := fun i => OkC X a q u i (posC.getD i 0)) (n := 118) (lt_succ_of (P := fun i => OkC X a q u i (posC.getD i 0)) (n := 117) (lt_succ_of (P := fun i => OkC X a q u i (posC.getD i 0)) (n := 116) (lt_succ_of (P := fun i => OkC X a q u i (posC.getD i 0)) (n := 115) (lt_succ_of (P := fun i => OkC X a q u i (posC.getD i 0)) (n := 114) (lt_succ_of (P := fun i => OkC X a q u i (posC.getD i 0)) (n := 113) (lt_succ_of (P := fun i => OkC X a q u i (posC.getD i 0)) (n := 112) (lt_succ_of (P := fun i => OkC X a q u i (posC.getD i 0)) (n := 111) (lt_succ_of (P := fun i => OkC X a q u i (posC.getD i 0)) (n := 110) (lt_succ_of (P := fun i => OkC X a q u i (posC.getD i 0)) (n := 109) (lt_succ_of (P := fun i => OkC X a q u i (posC.getD i 0)) (n := 108) (vy_4 X a q u) (vk_108 X a q u)) (vk_109 X a q u)) (vk_110 X a q u)) (vk_111 X a q u)) (vk_112 X a q u)) (vk_113 X a q u)) (vk_114 X a q u)) (vk_115 X a q u)) (vk_116 X a q u)) (vk_117 X a q u)) (vk_118 X a q u)) (vk_119 X a q u)) (vk_120 X a q u)) (vk_121 X a q u)) (vk_122 X a q u)) (vk_123 X a q u)) (vk_124 X a q u)) (vk_125 X a q u)) (vk_126 X a q u)) (vk_127 X a q u)) (vk_128 X a q u)) (vk_129 X a q u)) (vk_130 X a q u)) (vk_131 X a q u)) (vk_132 X a q u)) (vk_133 X a q u)) (vk_134 X a q u))
theorem vy_6 (X : XT) (a : Nat) (q : Nat → Nat) (u : Nat → Nat → Nat) : ∀ i, i < 162 → OkC X a q u i (posC.getD i 0) := (lt_succ_of (P := fun i => OkC X a q u i (posC.getD i 0)) (n := 161) (lt_succ_of (P := fun i => OkC X a q u i (posC.getD i 0)) (n := 160) (lt_succ_of (P := fun i => OkC X a q u i (posC.getD i 0)) (n := 159) (lt_succ_of (P := fun i => OkC X a q u i (posC.getD i 0)) (n := 158) (lt_succ_of (P := fun i => OkC X a q u i (posC.getD i 0)) (n := 157) (lt_succ_of (P := fun i => OkC X a q u i (posC.getD i 0)) (n := 156) (lt_succ_of (P := fun i => OkC X a q u i (posC.getD i 0)) (n := 155) (lt_succ_of (P := fun i => OkC X a q u i (posC.getD i 0)) (n := 154) (lt_succ_of (P := fun i => OkC X a q u i (posC.getD i 0)) (n := 153) (lt_succ_of (P := fun i => OkC X a q u i (posC.getD i 0)) (n := 152) (lt_succ_of (P := fun i => OkC X a q u i (posC.getD i 0)) (n := 151) (lt_succ_of (P := fun i => OkC X a q u i (posC.getD i 0)) (n := 150) (lt_succ_of (P := fun i => OkC X a q u i (posC.getD i 0)) (n := 149) (lt_succ_of (P := fun i => OkC X a q u i (posC.getD i 0)) (n := 148) (lt_succ_of (P := fun i => OkC X a q u i (posC.getD i 0)) (n := 147) (lt_succ_of (P := fun i => OkC X a q u i (posC.getD i 0)) (n := 146) (lt_succ_of (P := fun i => OkC X a q u i (posC.getD i 0)) (n := 145) (lt_succ_of (P := fun i => OkC X a q u i (posC.getD i 0)) (n := 144) (lt_succ_of (P := fun i => OkC X a q u i (posC.getD i 0)) (n := 143) (lt_succ_of (P := fun i => OkC X a q u i (posC.getD i 0)) (n := 142) (lt_succ_of (P := fun i => OkC X a q u i (posC.getD i 0)) (n := 141) (lt_succ_of (P := fun i => OkC X a q u i (posC.getD i 0)) (n := 140) (lt_succ_of (P := fun i => OkC X a q u i (posC.getD i 0)) (n := 139) (lt_succ_of (P := fun i => OkC X a q u i (posC.getD i 0)) (n := 138) (lt_succ_of (P := fun i => OkC X a q u i (posC.getD i 0)) (n := 137) (lt_succ_of (P := fun i => OkC X a q u i (posC.getD i 0)) (n := 136) (lt_succ_of (P := fun i => OkC X a q u i (posC.getD i 0)) (n := 135) (vy_5 X a q u) (vk_135 X a q u)) (vk_136 X a q u)) (vk_137 X a q u)) (vk_138 X a q u)) (vk_139 X a q u)) (vk_140 X a q u)) (vk_141 X a q u)) (vk_142 X a q u)) (vk_143 X a q u)) (vk_144 X a q u)) (vk_145 X a q u)) (vk_146 X a q u)) (vk_147 X a q u)) (vk_148 X a q u)) (vk_149 X a q u)) (vk_150 X a q u)) (vk_151 X a q u)) (vk_152 X a q u)) (vk_153 X a q u)) (vk_154 X a q u)) (vk_155 X a q u)) (vk_156 X a q u)) (vk_157 X a q u)) (vk_158 X a q u)) (vk_159 X a q u)) (vk_160 X a q u)) (vk_161 X a q u))
theorem vx_all (X : XT) (a : Nat) (q : Nat → Nat) (u : Nat → Nat → Nat) : ∀ i, i < 162 → ∃ e, (VX X a q u)[posC.getD i 0]? = some (adC a q u i, e) ∧ (∀ D cl H, va_at D cl (adC a q u i, e) H → va_at D cl (adC a q u i, celz X.2.1 (adC a q u) (shC i)) H) := vy_6 X a q u
def Fin10 (X : XT) (a : Nat) (u : Nat → Nat) : va_W := wld X.2.1 (fun i => if i = 0 then a else u i) shC nC S0
theorem vx_conv {X : XT} {a sz : Nat} {H0 H : Heap} {locs : List Loc} {q : Nat → Nat} {u : Nat → Nat → Nat} (hw : BW X a sz H0 (VX X a q u) H locs) : BW X a sz H0 (Fin10 X a (adC a q u)) H locs := by
  have e : (fun i => if i = 0 then a else adC a q u i) = adC a q u := by
    funext i
    by_cases h : i = 0
    · subst h; rfl
    · rw [if_neg h]
  have ew : Fin10 X a (adC a q u) = wld X.2.1 (adC a q u) shC nC S0 := by unfold Fin10; rw [e]
  rw [ew]
  have get : ∀ (k : Nat) (x : Nat × va_E), (wld X.2.1 (adC a q u) shC nC S0)[k]? = some x → k < 162 ∧ x = (adC a q u k, cel X.2.1 (adC a q u) S0 k (shC k)) := fun k x hk => by
    have h1 : k < nC := by
      have := (List.getElem?_eq_some_iff.mp hk).1; rwa [wld_len] at this
    rw [wld_get h1] at hk
    exact ⟨h1, (Option.some.inj hk).symm⟩
  refine ⟨fun k x hk => ?_, ⟨fun i j x y hi hj he => ?_, fun k x hk => ?_⟩, hw.2.2⟩
  · obtain ⟨h1, rfl⟩ := get k x hk
    obtain ⟨e, g1, g2⟩ := vx_all X a q u k h1
    rw [cel_z]
    exact g2 _ _ _ (hw.1 _ _ g1)
  · obtain ⟨h1, rfl⟩ := get i x hi
    obtain ⟨h2, rfl⟩ := get j y hj
    obtain ⟨e1, g1, -⟩ := vx_all X a q u i h1
    obtain ⟨e2, g2, -⟩ := vx_all X a q u j h2
    have h3 := hw.2.1.1 _ _ _ _ g1 g2 he
    rw [← pos_ids i h1, ← pos_ids j h2, h3]
  · obtain ⟨h1, rfl⟩ := get k x hk
    obtain ⟨e, g1, -⟩ := vx_all X a q u k h1
    exact (show AN a sz (adC a q u k) from hw.2.1.2 _ (adC a q u k, e) g1)
