abbrev rmX10_init : Room := { frames := 3, cells := 161, slots := 4910, locals := 53 }
theorem hd_X10_init : yX10_init.cls ≠ "java/lang/invoke/MethodHandle" ∧ yX10_init.cls ≠ "java/lang/invoke/VarHandle" ∧ (parseMethodDescriptor yX10_init.desc).map (fun d => d.parameters.length) = some 0 := by decide +kernel
theorem get_h (h x : Nat × va_E) (A1 A2 : va_W) : (((h :: A1) ++ [x]) ++ A2)[0]? = some h := rfl
theorem get_m (h x : Nat × va_E) (A1 A2 : va_W) : (((h :: A1) ++ [x]) ++ A2)[(h :: A1).length]? = some x := by simp
theorem set_m (h x y : Nat × va_E) (A1 A2 : va_W) : (((h :: A1) ++ [x]) ++ A2).set (h :: A1).length y = (((h :: A1) ++ [y]) ++ A2) := by simp [List.set_append]
theorem get_e (h x y : Nat × va_E) (A1 A2 B : va_W) : (((h :: A1) ++ [x]) ++ (A2 ++ (y :: B)))[((h :: A1) ++ [x]).length + A2.length]? = some y := by rw [List.getElem?_append_right (by omega), Nat.add_sub_cancel_left]; simp
set_option maxRecDepth 100000 in
set_option maxHeartbeats 40000000 in
theorem k_X10 (l : Launch) (X : XT) : NC l X yX10_init cX10_init 2 rmX10_init 10 [.null, .null, .null, .null, .null, .null, .null, .null, .int 0, .int 0, .int 0, .null, .null, .null, .null, .null, .null, .null, .null] Fin10 161 4910 := by
  refine met_N (own := RX10) (by decide) rfl rfl (by decide) (fun p e s m args below meth c a C ls hw hl => ?_)
  refine lv_aload_n C.1.1 C.1.2.1 dX10_init_0 rfl (lv_at hl 0 rfl) ?_
  refine n_obj C tw1_28 tw1_29 tw1_30 hl.1 dX10_init_1 (Nat.le_of_ble_eq_true rfl) (Nat.le_of_ble_eq_true rfl) ?_
  refine lv_aload_n C.1.1 C.1.2.1 dX10_init_4 rfl (lv_at hl 0 rfl) ?_
  refine n_new C hw cO6 (fs := [.null, .int 0, .int 0, .int 0, .int 0, .int 0, .int 0, .int 0]) (fun j hj => by rcases (show j = 0 ∨ j = 1 ∨ j = 2 ∨ j = 3 ∨ j = 4 ∨ j = 5 ∨ j = 6 ∨ j = 7 by omega) with rfl | rfl | rfl | rfl | rfl | rfl | rfl | rfl <;> rfl) tw1_31 tw1_32 tw1_2 (Nat.le_of_ble_eq_true rfl) (Nat.le_of_ble_eq_true rfl) dX10_init_5 (fun q0 H hw => ?_)
  refine W.widen (k := 1) (n := 8) (Nat.le_of_ble_eq_true rfl) (Nat.le_of_ble_eq_true rfl) ?_
  refine lv_dup C.1.1 C.1.2.1 dX10_init_8 rfl ?_
  refine n_callN (V := [(a, (Sum.inr (10, [.null, .null, .null, .null, .null, .null, .null, .null, .int 0, .int 0, .int 0, .null, .null, .null, .null, .null, .null, .null, .null]) : va_E))]) (rest := [.ref q0, .ref a]) C hw (k_X6 l X) (fun h => h.1.1) tw1_34 tw1_2 tw1_35 hd_X6_init rfl ⟨⟨rfl, rfl⟩, (Nat.le_of_ble_eq_true rfl), (Nat.le_of_ble_eq_true rfl)⟩ hl.1 (Nat.le_of_ble_eq_true rfl) dX10_init_9 (Nat.le_of_ble_eq_true rfl) (Nat.le_of_ble_eq_true rfl) (fun u0 H locs hw => ?_)
  refine W.widen (k := 3) (n := 410) (Nat.le_of_ble_eq_true rfl) (Nat.le_of_ble_eq_true rfl) ?_
  have hw : BW X a s.heap.size s.heap ((a, (Sum.inr (10, [.null, .null, .null, .null, .null, .null, .null, .null, .int 0, .int 0, .int 0, .null, .null, .null, .null, .null, .null, .null, .null]) : va_E)) :: (Fin6 X q0 u0)) H locs := hw
  refine n_put (k := 0) C hw 0 rfl cO10 (by decide) tw2_46 rfl rfl rfl (Nat.le_of_ble_eq_true rfl) rfl rfl dX10_init_12 (fun H locs hw => ?_)
  have hw : BW X a s.heap.size s.heap ((a, (Sum.inr (10, [.ref q0, .null, .null, .null, .null, .null, .null, .null, .int 0, .int 0, .int 0, .null, .null, .null, .null, .null, .null, .null, .null]) : va_E)) :: (Fin6 X q0 u0)) H locs := hw
  refine lv_aload_n C.1.1 C.1.2.1 dX10_init_15 rfl (lv_at hl 0 rfl) ?_
  refine lv_aload_n C.1.1 C.1.2.1 dX10_init_16 rfl (lv_at hl 0 rfl) ?_
  refine n_get (k := 0) C hw 0 rfl cO10 (by decide) tw2_46 rfl rfl dX10_init_17 ?_
  refine n_get (k := 0) C hw 1 rfl cO6 (by decide) tw1_54 rfl rfl dX10_init_20 ?_
  refine n_put (k := 1) C hw 0 rfl cO10 (by decide) tw2_47 rfl rfl rfl (Nat.le_of_ble_eq_true rfl) rfl rfl dX10_init_23 (fun H locs hw => ?_)
  have hw : BW X a s.heap.size s.heap ((a, (Sum.inr (10, [.ref q0, .ref (u0 0), .null, .null, .null, .null, .null, .null, .int 0, .int 0, .int 0, .null, .null, .null, .null, .null, .null, .null, .null]) : va_E)) :: (Fin6 X q0 u0)) H locs := hw
  refine lv_aload_n C.1.1 C.1.2.1 dX10_init_26 rfl (lv_at hl 0 rfl) ?_
  refine n_new C hw cO0 (fs := [.null, .int 0, .int 0]) (fun j hj => by rcases (show j = 0 ∨ j = 1 ∨ j = 2 by omega) with rfl | rfl | rfl <;> rfl) tw1_79 tw1_80 tw1_4 (Nat.le_of_ble_eq_true rfl) (Nat.le_of_ble_eq_true rfl) dX10_init_27 (fun q1 H hw => ?_)
  refine W.widen (k := 4) (n := 413) (Nat.le_of_ble_eq_true rfl) (Nat.le_of_ble_eq_true rfl) ?_
  refine lv_dup C.1.1 C.1.2.1 dX10_init_30 rfl ?_
  refine n_callN (V := ((a, (Sum.inr (10, [.ref q0, .ref (u0 0), .null, .null, .null, .null, .null, .null, .int 0, .int 0, .int 0, .null, .null, .null, .null, .null, .null, .null, .null]) : va_E)) :: (Fin6 X q0 u0))) (rest := [.ref q1, .ref a]) C hw (k_X0 l X) (fun h => h.1.2.2.1) tw1_82 tw1_4 tw1_83 hd_X0_init rfl ⟨⟨rfl, rfl⟩, (Nat.le_of_ble_eq_true rfl), (Nat.le_of_ble_eq_true rfl)⟩ hl.1 (Nat.le_of_ble_eq_true rfl) dX10_init_31 (Nat.le_of_ble_eq_true rfl) (Nat.le_of_ble_eq_true rfl) (fun u1 H locs hw => ?_)
  refine W.widen (k := 5) (n := 461) (Nat.le_of_ble_eq_true rfl) (Nat.le_of_ble_eq_true rfl) ?_
  have hw : BW X a s.heap.size s.heap ((a, (Sum.inr (10, [.ref q0, .ref (u0 0), .null, .null, .null, .null, .null, .null, .int 0, .int 0, .int 0, .null, .null, .null, .null, .null, .null, .null, .null]) : va_E)) :: (Fin6 X q0 u0 ++ Fin0 X q1 u1)) H locs := hw
  refine n_put (k := 2) C hw 0 rfl cO10 (by decide) tw2_48 rfl rfl rfl (Nat.le_of_ble_eq_true rfl) rfl rfl dX10_init_34 (fun H locs hw => ?_)
  have hw : BW X a s.heap.size s.heap ((a, (Sum.inr (10, [.ref q0, .ref (u0 0), .ref q1, .null, .null, .null, .null, .null, .int 0, .int 0, .int 0, .null, .null, .null, .null, .null, .null, .null, .null]) : va_E)) :: (Fin6 X q0 u0 ++ Fin0 X q1 u1)) H locs := hw
  refine lv_aload_n C.1.1 C.1.2.1 dX10_init_37 rfl (lv_at hl 0 rfl) ?_
  refine n_new C hw cO5 (fs := [.int 0, .int 0, .null, .null, .null, .null, .null, .null, .null, .null, .null, .null, .null, .null, .null]) (fun j hj => by rcases (show j = 0 ∨ j = 1 ∨ j = 2 ∨ j = 3 ∨ j = 4 ∨ j = 5 ∨ j = 6 ∨ j = 7 ∨ j = 8 ∨ j = 9 ∨ j = 10 ∨ j = 11 ∨ j = 12 ∨ j = 13 ∨ j = 14 by omega) with rfl | rfl | rfl | rfl | rfl | rfl | rfl | rfl | rfl | rfl | rfl | rfl | rfl | rfl | rfl <;> rfl) tw1_105 tw1_106 tw1_5 (Nat.le_of_ble_eq_true rfl) (Nat.le_of_ble_eq_true rfl) dX10_init_38 (fun q2 H hw => ?_)
  refine W.widen (k := 6) (n := 476) (Nat.le_of_ble_eq_true rfl) (Nat.le_of_ble_eq_true rfl) ?_
  refine lv_dup C.1.1 C.1.2.1 dX10_init_41 rfl ?_
  refine n_callN (V := ((a, (Sum.inr (10, [.ref q0, .ref (u0 0), .ref q1, .null, .null, .null, .null, .null, .int 0, .int 0, .int 0, .null, .null, .null, .null, .null, .null, .null, .null]) : va_E)) :: (Fin6 X q0 u0 ++ Fin0 X q1 u1))) (rest := [.ref q2, .ref a]) C hw (k_X5 l X) (fun h => h.1.2.2.2.1) tw1_108 tw1_5 tw1_109 hd_X5_init rfl ⟨⟨rfl, rfl⟩, (Nat.le_of_ble_eq_true rfl), (Nat.le_of_ble_eq_true rfl)⟩ hl.1 (Nat.le_of_ble_eq_true rfl) dX10_init_42 (Nat.le_of_ble_eq_true rfl) (Nat.le_of_ble_eq_true rfl) (fun u2 H locs hw => ?_)
  refine W.widen (k := 19) (n := 1100) (Nat.le_of_ble_eq_true rfl) (Nat.le_of_ble_eq_true rfl) ?_
  have hw : BW X a s.heap.size s.heap ((a, (Sum.inr (10, [.ref q0, .ref (u0 0), .ref q1, .null, .null, .null, .null, .null, .int 0, .int 0, .int 0, .null, .null, .null, .null, .null, .null, .null, .null]) : va_E)) :: (Fin6 X q0 u0 ++ Fin0 X q1 u1 ++ Fin5 X q2 u2)) H locs := hw
  refine n_put (k := 3) C hw 0 rfl cO10 (by decide) tw2_49 rfl rfl rfl (Nat.le_of_ble_eq_true rfl) rfl rfl dX10_init_45 (fun H locs hw => ?_)
  have hw : BW X a s.heap.size s.heap ((a, (Sum.inr (10, [.ref q0, .ref (u0 0), .ref q1, .ref q2, .null, .null, .null, .null, .int 0, .int 0, .int 0, .null, .null, .null, .null, .null, .null, .null, .null]) : va_E)) :: (Fin6 X q0 u0 ++ Fin0 X q1 u1 ++ Fin5 X q2 u2)) H locs := hw
  refine lv_aload_n C.1.1 C.1.2.1 dX10_init_48 rfl (lv_at hl 0 rfl) ?_
  refine n_new C hw cO3 (fs := [.int 0, .int 0, .null, .null, .null, .null]) (fun j hj => by rcases (show j = 0 ∨ j = 1 ∨ j = 2 ∨ j = 3 ∨ j = 4 ∨ j = 5 by omega) with rfl | rfl | rfl | rfl | rfl | rfl <;> rfl) tw1_160 tw1_161 tw1_6 (Nat.le_of_ble_eq_true rfl) (Nat.le_of_ble_eq_true rfl) dX10_init_49 (fun q3 H hw => ?_)
  refine W.widen (k := 20) (n := 1106) (Nat.le_of_ble_eq_true rfl) (Nat.le_of_ble_eq_true rfl) ?_
  refine lv_dup C.1.1 C.1.2.1 dX10_init_52 rfl ?_
  refine n_callN (V := ((a, (Sum.inr (10, [.ref q0, .ref (u0 0), .ref q1, .ref q2, .null, .null, .null, .null, .int 0, .int 0, .int 0, .null, .null, .null, .null, .null, .null, .null, .null]) : va_E)) :: (Fin6 X q0 u0 ++ Fin0 X q1 u1 ++ Fin5 X q2 u2))) (rest := [.ref q3, .ref a]) C hw (k_X3 l X) (fun h => h.1.2.2.2.2.1) tw1_163 tw1_6 tw1_164 hd_X3_init rfl ⟨⟨rfl, rfl⟩, (Nat.le_of_ble_eq_true rfl), (Nat.le_of_ble_eq_true rfl)⟩ hl.1 (Nat.le_of_ble_eq_true rfl) dX10_init_53 (Nat.le_of_ble_eq_true rfl) (Nat.le_of_ble_eq_true rfl) (fun u3 H locs hw => ?_)
  refine W.widen (k := 24) (n := 1178) (Nat.le_of_ble_eq_true rfl) (Nat.le_of_ble_eq_true rfl) ?_
  have hw : BW X a s.heap.size s.heap ((a, (Sum.inr (10, [.ref q0, .ref (u0 0), .ref q1, .ref q2, .null, .null, .null, .null, .int 0, .int 0, .int 0, .null, .null, .null, .null, .null, .null, .null, .null]) : va_E)) :: (Fin6 X q0 u0 ++ Fin0 X q1 u1 ++ Fin5 X q2 u2 ++ Fin3 X q3 u3)) H locs := hw
  refine n_put (k := 4) C hw 0 rfl cO10 (by decide) tw2_50 rfl rfl rfl (Nat.le_of_ble_eq_true rfl) rfl rfl dX10_init_56 (fun H locs hw => ?_)
  have hw : BW X a s.heap.size s.heap ((a, (Sum.inr (10, [.ref q0, .ref (u0 0), .ref q1, .ref q2, .ref q3, .null, .null, .null, .int 0, .int 0, .int 0, .null, .null, .null, .null, .null, .null, .null, .null]) : va_E)) :: (Fin6 X q0 u0 ++ Fin0 X q1 u1 ++ Fin5 X q2 u2 ++ Fin3 X q3 u3)) H locs := hw
  refine lv_aload_n C.1.1 C.1.2.1 dX10_init_59 rfl (lv_at hl 0 rfl) ?_
  refine n_new C hw cO2 (fs := [.int 0, .int 0, .null]) (fun j hj => by rcases (show j = 0 ∨ j = 1 ∨ j = 2 by omega) with rfl | rfl | rfl <;> rfl) tw1_193 tw1_194 tw1_7 (Nat.le_of_ble_eq_true rfl) (Nat.le_of_ble_eq_true rfl) dX10_init_60 (fun q4 H hw => ?_)
  refine W.widen (k := 25) (n := 1181) (Nat.le_of_ble_eq_true rfl) (Nat.le_of_ble_eq_true rfl) ?_
  refine lv_dup C.1.1 C.1.2.1 dX10_init_63 rfl ?_
  refine n_callM (V := ((a, (Sum.inr (10, [.ref q0, .ref (u0 0), .ref q1, .ref q2, .ref q3, .null, .null, .null, .int 0, .int 0, .int 0, .null, .null, .null, .null, .null, .null, .null, .null]) : va_E)) :: (Fin6 X q0 u0 ++ Fin0 X q1 u1 ++ Fin5 X q2 u2 ++ Fin3 X q3 u3))) (rest := [.ref q4, .ref a]) C hw (k_X2 l X) tw1_195 tw1_196 tw1_7 tw1_197 hd_X2_init rfl ⟨⟨rfl, rfl⟩, (Nat.le_of_ble_eq_true rfl), (Nat.le_of_ble_eq_true rfl)⟩ hl.1 (Nat.le_of_ble_eq_true rfl) dX10_init_64 (Nat.le_of_ble_eq_true rfl) (Nat.le_of_ble_eq_true rfl) (fun u4 H locs hw => ?_)
  refine W.widen (k := 106) (n := 3261) (Nat.le_of_ble_eq_true rfl) (Nat.le_of_ble_eq_true rfl) ?_
  have hw : BW X a s.heap.size s.heap ((a, (Sum.inr (10, [.ref q0, .ref (u0 0), .ref q1, .ref q2, .ref q3, .null, .null, .null, .int 0, .int 0, .int 0, .null, .null, .null, .null, .null, .null, .null, .null]) : va_E)) :: (Fin6 X q0 u0 ++ Fin0 X q1 u1 ++ Fin5 X q2 u2 ++ Fin3 X q3 u3 ++ Fin2 X q4 u4)) H locs := hw
  refine n_put (k := 5) C hw 0 rfl cO10 (by decide) tw2_51 rfl rfl rfl (Nat.le_of_ble_eq_true rfl) rfl rfl dX10_init_67 (fun H locs hw => ?_)
  have hw : BW X a s.heap.size s.heap ((a, (Sum.inr (10, [.ref q0, .ref (u0 0), .ref q1, .ref q2, .ref q3, .ref q4, .null, .null, .int 0, .int 0, .int 0, .null, .null, .null, .null, .null, .null, .null, .null]) : va_E)) :: (Fin6 X q0 u0 ++ Fin0 X q1 u1 ++ Fin5 X q2 u2 ++ Fin3 X q3 u3 ++ Fin2 X q4 u4)) H locs := hw
  refine lv_aload_n C.1.1 C.1.2.1 dX10_init_70 rfl (lv_at hl 0 rfl) ?_
  refine n_new C hw cO4 (fs := [.int 0, .int 0, .null, .null, .null]) (fun j hj => by rcases (show j = 0 ∨ j = 1 ∨ j = 2 ∨ j = 3 ∨ j = 4 by omega) with rfl | rfl | rfl | rfl | rfl <;> rfl) tw1_213 tw1_214 tw1_8 (Nat.le_of_ble_eq_true rfl) (Nat.le_of_ble_eq_true rfl) dX10_init_71 (fun q5 H hw => ?_)
  refine W.widen (k := 107) (n := 3266) (Nat.le_of_ble_eq_true rfl) (Nat.le_of_ble_eq_true rfl) ?_
  refine lv_dup C.1.1 C.1.2.1 dX10_init_74 rfl ?_
  refine n_callN (V := ((a, (Sum.inr (10, [.ref q0, .ref (u0 0), .ref q1, .ref q2, .ref q3, .ref q4, .null, .null, .int 0, .int 0, .int 0, .null, .null, .null, .null, .null, .null, .null, .null]) : va_E)) :: (Fin6 X q0 u0 ++ Fin0 X q1 u1 ++ Fin5 X q2 u2 ++ Fin3 X q3 u3 ++ Fin2 X q4 u4))) (rest := [.ref q5, .ref a]) C hw (k_X4 l X) (fun h => h.1.2.2.2.2.2.2.1) tw1_216 tw1_8 tw1_217 hd_X4_init rfl ⟨⟨rfl, rfl⟩, (Nat.le_of_ble_eq_true rfl), (Nat.le_of_ble_eq_true rfl)⟩ hl.1 (Nat.le_of_ble_eq_true rfl) dX10_init_75 (Nat.le_of_ble_eq_true rfl) (Nat.le_of_ble_eq_true rfl) (fun u5 H locs hw => ?_)
  refine W.widen (k := 110) (n := 3566) (Nat.le_of_ble_eq_true rfl) (Nat.le_of_ble_eq_true rfl) ?_
  have hw : BW X a s.heap.size s.heap ((a, (Sum.inr (10, [.ref q0, .ref (u0 0), .ref q1, .ref q2, .ref q3, .ref q4, .null, .null, .int 0, .int 0, .int 0, .null, .null, .null, .null, .null, .null, .null, .null]) : va_E)) :: (Fin6 X q0 u0 ++ Fin0 X q1 u1 ++ Fin5 X q2 u2 ++ Fin3 X q3 u3 ++ Fin2 X q4 u4 ++ Fin4 X q5 u5)) H locs := hw
  refine n_put (k := 6) C hw 0 rfl cO10 (by decide) tw2_52 rfl rfl rfl (Nat.le_of_ble_eq_true rfl) rfl rfl dX10_init_78 (fun H locs hw => ?_)
  have hw : BW X a s.heap.size s.heap ((a, (Sum.inr (10, [.ref q0, .ref (u0 0), .ref q1, .ref q2, .ref q3, .ref q4, .ref q5, .null, .int 0, .int 0, .int 0, .null, .null, .null, .null, .null, .null, .null, .null]) : va_E)) :: (Fin6 X q0 u0 ++ Fin0 X q1 u1 ++ Fin5 X q2 u2 ++ Fin3 X q3 u3 ++ Fin2 X q4 u4 ++ Fin4 X q5 u5)) H locs := hw
  refine lv_aload_n C.1.1 C.1.2.1 dX10_init_81 rfl (lv_at hl 0 rfl) ?_
  refine lv_iconst (v := 4) C.1.1 C.1.2.1 dX10_init_82 (by decide) ?_
  refine n_newQ (t := 3) (N := 4) C hw rfl tw1_235 C.2.2.2.2.2.2.1 (by decide) (by decide) (Nat.le_of_ble_eq_true rfl) (Nat.le_of_ble_eq_true rfl) (Nat.le_of_ble_eq_true rfl) dX10_init_83 (fun q6 H hw => ?_)
  refine W.widen (k := 111) (n := 3570) (Nat.le_of_ble_eq_true rfl) (Nat.le_of_ble_eq_true rfl) ?_
  have hw : BW X a s.heap.size s.heap ((a, (Sum.inr (10, [.ref q0, .ref (u0 0), .ref q1, .ref q2, .ref q3, .ref q4, .ref q5, .null, .int 0, .int 0, .int 0, .null, .null, .null, .null, .null, .null, .null, .null]) : va_E)) :: (Fin6 X q0 u0 ++ Fin0 X q1 u1 ++ Fin5 X q2 u2 ++ Fin3 X q3 u3 ++ Fin2 X q4 u4 ++ Fin4 X q5 u5 ++ [(q6, (Sum.inl (X.2.1 3, 4, .inr (.inr (.inr (.inr (fun _ => none))))) : va_E))])) H locs := hw
  refine n_put (k := 7) C hw 0 rfl cO10 (by decide) tw2_53 rfl rfl rfl (Nat.le_of_ble_eq_true rfl) rfl rfl dX10_init_86 (fun H locs hw => ?_)
  have hw : BW X a s.heap.size s.heap ((a, (Sum.inr (10, [.ref q0, .ref (u0 0), .ref q1, .ref q2, .ref q3, .ref q4, .ref q5, .ref q6, .int 0, .int 0, .int 0, .null, .null, .null, .null, .null, .null, .null, .null]) : va_E)) :: (Fin6 X q0 u0 ++ Fin0 X q1 u1 ++ Fin5 X q2 u2 ++ Fin3 X q3 u3 ++ Fin2 X q4 u4 ++ Fin4 X q5 u5 ++ [(q6, (Sum.inl (X.2.1 3, 4, .inr (.inr (.inr (.inr (fun _ => none))))) : va_E))])) H locs := hw
  refine lv_aload_n C.1.1 C.1.2.1 dX10_init_89 rfl (lv_at hl 0 rfl) ?_
  refine n_new C hw cO0 (fs := [.null, .int 0, .int 0]) (fun j hj => by rcases (show j = 0 ∨ j = 1 ∨ j = 2 by omega) with rfl | rfl | rfl <;> rfl) tw1_79 tw1_80 tw1_4 (Nat.le_of_ble_eq_true rfl) (Nat.le_of_ble_eq_true rfl) dX10_init_90 (fun q7 H hw => ?_)
  refine W.widen (k := 112) (n := 3573) (Nat.le_of_ble_eq_true rfl) (Nat.le_of_ble_eq_true rfl) ?_
  refine lv_dup C.1.1 C.1.2.1 dX10_init_93 rfl ?_
  refine n_callN (V := ((a, (Sum.inr (10, [.ref q0, .ref (u0 0), .ref q1, .ref q2, .ref q3, .ref q4, .ref q5, .ref q6, .int 0, .int 0, .int 0, .null, .null, .null, .null, .null, .null, .null, .null]) : va_E)) :: (Fin6 X q0 u0 ++ Fin0 X q1 u1 ++ Fin5 X q2 u2 ++ Fin3 X q3 u3 ++ Fin2 X q4 u4 ++ Fin4 X q5 u5 ++ [(q6, (Sum.inl (X.2.1 3, 4, .inr (.inr (.inr (.inr (fun _ => none))))) : va_E))]))) (rest := [.ref q7, .ref a]) C hw (k_X0 l X) (fun h => h.1.2.2.1) tw1_82 tw1_4 tw1_83 hd_X0_init rfl ⟨⟨rfl, rfl⟩, (Nat.le_of_ble_eq_true rfl), (Nat.le_of_ble_eq_true rfl)⟩ hl.1 (Nat.le_of_ble_eq_true rfl) dX10_init_94 (Nat.le_of_ble_eq_true rfl) (Nat.le_of_ble_eq_true rfl) (fun u6 H locs hw => ?_)
  refine W.widen (k := 113) (n := 3621) (Nat.le_of_ble_eq_true rfl) (Nat.le_of_ble_eq_true rfl) ?_
  have hw : BW X a s.heap.size s.heap ((a, (Sum.inr (10, [.ref q0, .ref (u0 0), .ref q1, .ref q2, .ref q3, .ref q4, .ref q5, .ref q6, .int 0, .int 0, .int 0, .null, .null, .null, .null, .null, .null, .null, .null]) : va_E)) :: (Fin6 X q0 u0 ++ Fin0 X q1 u1 ++ Fin5 X q2 u2 ++ Fin3 X q3 u3 ++ Fin2 X q4 u4 ++ Fin4 X q5 u5 ++ [(q6, (Sum.inl (X.2.1 3, 4, .inr (.inr (.inr (.inr (fun _ => none))))) : va_E))] ++ Fin0 X q7 u6)) H locs := hw
  refine n_put (k := 11) C hw 0 rfl cO10 (by decide) tw2_57 rfl rfl rfl (Nat.le_of_ble_eq_true rfl) rfl rfl dX10_init_97 (fun H locs hw => ?_)
  have hw : BW X a s.heap.size s.heap ((a, (Sum.inr (10, [.ref q0, .ref (u0 0), .ref q1, .ref q2, .ref q3, .ref q4, .ref q5, .ref q6, .int 0, .int 0, .int 0, .ref q7, .null, .null, .null, .null, .null, .null, .null]) : va_E)) :: (Fin6 X q0 u0 ++ Fin0 X q1 u1 ++ Fin5 X q2 u2 ++ Fin3 X q3 u3 ++ Fin2 X q4 u4 ++ Fin4 X q5 u5 ++ [(q6, (Sum.inl (X.2.1 3, 4, .inr (.inr (.inr (.inr (fun _ => none))))) : va_E))] ++ Fin0 X q7 u6)) H locs := hw
  refine lv_aload_n C.1.1 C.1.2.1 dX10_init_100 rfl (lv_at hl 0 rfl) ?_
  refine n_new C hw cO4 (fs := [.int 0, .int 0, .null, .null, .null]) (fun j hj => by rcases (show j = 0 ∨ j = 1 ∨ j = 2 ∨ j = 3 ∨ j = 4 by omega) with rfl | rfl | rfl | rfl | rfl <;> rfl) tw1_213 tw1_214 tw1_8 (Nat.le_of_ble_eq_true rfl) (Nat.le_of_ble_eq_true rfl) dX10_init_101 (fun q8 H hw => ?_)
  refine W.widen (k := 114) (n := 3626) (Nat.le_of_ble_eq_true rfl) (Nat.le_of_ble_eq_true rfl) ?_
  refine lv_dup C.1.1 C.1.2.1 dX10_init_104 rfl ?_
  refine n_callN (V := ((a, (Sum.inr (10, [.ref q0, .ref (u0 0), .ref q1, .ref q2, .ref q3, .ref q4, .ref q5, .ref q6, .int 0, .int 0, .int 0, .ref q7, .null, .null, .null, .null, .null, .null, .null]) : va_E)) :: (Fin6 X q0 u0 ++ Fin0 X q1 u1 ++ Fin5 X q2 u2 ++ Fin3 X q3 u3 ++ Fin2 X q4 u4 ++ Fin4 X q5 u5 ++ [(q6, (Sum.inl (X.2.1 3, 4, .inr (.inr (.inr (.inr (fun _ => none))))) : va_E))] ++ Fin0 X q7 u6))) (rest := [.ref q8, .ref a]) C hw (k_X4 l X) (fun h => h.1.2.2.2.2.2.2.1) tw1_216 tw1_8 tw1_217 hd_X4_init rfl ⟨⟨rfl, rfl⟩, (Nat.le_of_ble_eq_true rfl), (Nat.le_of_ble_eq_true rfl)⟩ hl.1 (Nat.le_of_ble_eq_true rfl) dX10_init_105 (Nat.le_of_ble_eq_true rfl) (Nat.le_of_ble_eq_true rfl) (fun u7 H locs hw => ?_)
  refine W.widen (k := 117) (n := 3926) (Nat.le_of_ble_eq_true rfl) (Nat.le_of_ble_eq_true rfl) ?_
  have hw : BW X a s.heap.size s.heap ((a, (Sum.inr (10, [.ref q0, .ref (u0 0), .ref q1, .ref q2, .ref q3, .ref q4, .ref q5, .ref q6, .int 0, .int 0, .int 0, .ref q7, .null, .null, .null, .null, .null, .null, .null]) : va_E)) :: (Fin6 X q0 u0 ++ Fin0 X q1 u1 ++ Fin5 X q2 u2 ++ Fin3 X q3 u3 ++ Fin2 X q4 u4 ++ Fin4 X q5 u5 ++ [(q6, (Sum.inl (X.2.1 3, 4, .inr (.inr (.inr (.inr (fun _ => none))))) : va_E))] ++ Fin0 X q7 u6 ++ Fin4 X q8 u7)) H locs := hw
  refine n_put (k := 12) C hw 0 rfl cO10 (by decide) tw2_58 rfl rfl rfl (Nat.le_of_ble_eq_true rfl) rfl rfl dX10_init_108 (fun H locs hw => ?_)
  have hw : BW X a s.heap.size s.heap ((a, (Sum.inr (10, [.ref q0, .ref (u0 0), .ref q1, .ref q2, .ref q3, .ref q4, .ref q5, .ref q6, .int 0, .int 0, .int 0, .ref q7, .ref q8, .null, .null, .null, .null, .null, .null]) : va_E)) :: (Fin6 X q0 u0 ++ Fin0 X q1 u1 ++ Fin5 X q2 u2 ++ Fin3 X q3 u3 ++ Fin2 X q4 u4 ++ Fin4 X q5 u5 ++ [(q6, (Sum.inl (X.2.1 3, 4, .inr (.inr (.inr (.inr (fun _ => none))))) : va_E))] ++ Fin0 X q7 u6 ++ Fin4 X q8 u7)) H locs := hw
  refine lv_aload_n C.1.1 C.1.2.1 dX10_init_111 rfl (lv_at hl 0 rfl) ?_
  refine n_new C hw cO0 (fs := [.null, .int 0, .int 0]) (fun j hj => by rcases (show j = 0 ∨ j = 1 ∨ j = 2 by omega) with rfl | rfl | rfl <;> rfl) tw1_79 tw1_80 tw1_4 (Nat.le_of_ble_eq_true rfl) (Nat.le_of_ble_eq_true rfl) dX10_init_112 (fun q9 H hw => ?_)
  refine W.widen (k := 118) (n := 3929) (Nat.le_of_ble_eq_true rfl) (Nat.le_of_ble_eq_true rfl) ?_
  refine lv_dup C.1.1 C.1.2.1 dX10_init_115 rfl ?_
  refine n_callN (V := ((a, (Sum.inr (10, [.ref q0, .ref (u0 0), .ref q1, .ref q2, .ref q3, .ref q4, .ref q5, .ref q6, .int 0, .int 0, .int 0, .ref q7, .ref q8, .null, .null, .null, .null, .null, .null]) : va_E)) :: (Fin6 X q0 u0 ++ Fin0 X q1 u1 ++ Fin5 X q2 u2 ++ Fin3 X q3 u3 ++ Fin2 X q4 u4 ++ Fin4 X q5 u5 ++ [(q6, (Sum.inl (X.2.1 3, 4, .inr (.inr (.inr (.inr (fun _ => none))))) : va_E))] ++ Fin0 X q7 u6 ++ Fin4 X q8 u7))) (rest := [.ref q9, .ref a]) C hw (k_X0 l X) (fun h => h.1.2.2.1) tw1_82 tw1_4 tw1_83 hd_X0_init rfl ⟨⟨rfl, rfl⟩, (Nat.le_of_ble_eq_true rfl), (Nat.le_of_ble_eq_true rfl)⟩ hl.1 (Nat.le_of_ble_eq_true rfl) dX10_init_116 (Nat.le_of_ble_eq_true rfl) (Nat.le_of_ble_eq_true rfl) (fun u8 H locs hw => ?_)
  refine W.widen (k := 119) (n := 3977) (Nat.le_of_ble_eq_true rfl) (Nat.le_of_ble_eq_true rfl) ?_
  have hw : BW X a s.heap.size s.heap ((a, (Sum.inr (10, [.ref q0, .ref (u0 0), .ref q1, .ref q2, .ref q3, .ref q4, .ref q5, .ref q6, .int 0, .int 0, .int 0, .ref q7, .ref q8, .null, .null, .null, .null, .null, .null]) : va_E)) :: (Fin6 X q0 u0 ++ Fin0 X q1 u1 ++ Fin5 X q2 u2 ++ Fin3 X q3 u3 ++ Fin2 X q4 u4 ++ Fin4 X q5 u5 ++ [(q6, (Sum.inl (X.2.1 3, 4, .inr (.inr (.inr (.inr (fun _ => none))))) : va_E))] ++ Fin0 X q7 u6 ++ Fin4 X q8 u7 ++ Fin0 X q9 u8)) H locs := hw
  refine n_put (k := 13) C hw 0 rfl cO10 (by decide) tw2_59 rfl rfl rfl (Nat.le_of_ble_eq_true rfl) rfl rfl dX10_init_119 (fun H locs hw => ?_)
  have hw : BW X a s.heap.size s.heap ((a, (Sum.inr (10, [.ref q0, .ref (u0 0), .ref q1, .ref q2, .ref q3, .ref q4, .ref q5, .ref q6, .int 0, .int 0, .int 0, .ref q7, .ref q8, .ref q9, .null, .null, .null, .null, .null]) : va_E)) :: (Fin6 X q0 u0 ++ Fin0 X q1 u1 ++ Fin5 X q2 u2 ++ Fin3 X q3 u3 ++ Fin2 X q4 u4 ++ Fin4 X q5 u5 ++ [(q6, (Sum.inl (X.2.1 3, 4, .inr (.inr (.inr (.inr (fun _ => none))))) : va_E))] ++ Fin0 X q7 u6 ++ Fin4 X q8 u7 ++ Fin0 X q9 u8)) H locs := hw
  refine lv_aload_n C.1.1 C.1.2.1 dX10_init_122 rfl (lv_at hl 0 rfl) ?_
  refine n_new C hw cO5 (fs := [.int 0, .int 0, .null, .null, .null, .null, .null, .null, .null, .null, .null, .null, .null, .null, .null]) (fun j hj => by rcases (show j = 0 ∨ j = 1 ∨ j = 2 ∨ j = 3 ∨ j = 4 ∨ j = 5 ∨ j = 6 ∨ j = 7 ∨ j = 8 ∨ j = 9 ∨ j = 10 ∨ j = 11 ∨ j = 12 ∨ j = 13 ∨ j = 14 by omega) with rfl | rfl | rfl | rfl | rfl | rfl | rfl | rfl | rfl | rfl | rfl | rfl | rfl | rfl | rfl <;> rfl) tw1_105 tw1_106 tw1_5 (Nat.le_of_ble_eq_true rfl) (Nat.le_of_ble_eq_true rfl) dX10_init_123 (fun q10 H hw => ?_)
  refine W.widen (k := 120) (n := 3992) (Nat.le_of_ble_eq_true rfl) (Nat.le_of_ble_eq_true rfl) ?_
  refine lv_dup C.1.1 C.1.2.1 dX10_init_126 rfl ?_
  refine n_callN (V := ((a, (Sum.inr (10, [.ref q0, .ref (u0 0), .ref q1, .ref q2, .ref q3, .ref q4, .ref q5, .ref q6, .int 0, .int 0, .int 0, .ref q7, .ref q8, .ref q9, .null, .null, .null, .null, .null]) : va_E)) :: (Fin6 X q0 u0 ++ Fin0 X q1 u1 ++ Fin5 X q2 u2 ++ Fin3 X q3 u3 ++ Fin2 X q4 u4 ++ Fin4 X q5 u5 ++ [(q6, (Sum.inl (X.2.1 3, 4, .inr (.inr (.inr (.inr (fun _ => none))))) : va_E))] ++ Fin0 X q7 u6 ++ Fin4 X q8 u7 ++ Fin0 X q9 u8))) (rest := [.ref q10, .ref a]) C hw (k_X5 l X) (fun h => h.1.2.2.2.1) tw1_108 tw1_5 tw1_109 hd_X5_init rfl ⟨⟨rfl, rfl⟩, (Nat.le_of_ble_eq_true rfl), (Nat.le_of_ble_eq_true rfl)⟩ hl.1 (Nat.le_of_ble_eq_true rfl) dX10_init_127 (Nat.le_of_ble_eq_true rfl) (Nat.le_of_ble_eq_true rfl) (fun u9 H locs hw => ?_)
  refine W.widen (k := 133) (n := 4616) (Nat.le_of_ble_eq_true rfl) (Nat.le_of_ble_eq_true rfl) ?_
  have hw : BW X a s.heap.size s.heap ((a, (Sum.inr (10, [.ref q0, .ref (u0 0), .ref q1, .ref q2, .ref q3, .ref q4, .ref q5, .ref q6, .int 0, .int 0, .int 0, .ref q7, .ref q8, .ref q9, .null, .null, .null, .null, .null]) : va_E)) :: (Fin6 X q0 u0 ++ Fin0 X q1 u1 ++ Fin5 X q2 u2 ++ Fin3 X q3 u3 ++ Fin2 X q4 u4 ++ Fin4 X q5 u5 ++ [(q6, (Sum.inl (X.2.1 3, 4, .inr (.inr (.inr (.inr (fun _ => none))))) : va_E))] ++ Fin0 X q7 u6 ++ Fin4 X q8 u7 ++ Fin0 X q9 u8 ++ Fin5 X q10 u9)) H locs := hw
  refine n_put (k := 14) C hw 0 rfl cO10 (by decide) tw2_60 rfl rfl rfl (Nat.le_of_ble_eq_true rfl) rfl rfl dX10_init_130 (fun H locs hw => ?_)
  have hw : BW X a s.heap.size s.heap ((a, (Sum.inr (10, [.ref q0, .ref (u0 0), .ref q1, .ref q2, .ref q3, .ref q4, .ref q5, .ref q6, .int 0, .int 0, .int 0, .ref q7, .ref q8, .ref q9, .ref q10, .null, .null, .null, .null]) : va_E)) :: (Fin6 X q0 u0 ++ Fin0 X q1 u1 ++ Fin5 X q2 u2 ++ Fin3 X q3 u3 ++ Fin2 X q4 u4 ++ Fin4 X q5 u5 ++ [(q6, (Sum.inl (X.2.1 3, 4, .inr (.inr (.inr (.inr (fun _ => none))))) : va_E))] ++ Fin0 X q7 u6 ++ Fin4 X q8 u7 ++ Fin0 X q9 u8 ++ Fin5 X q10 u9)) H locs := hw
  refine lv_aload_n C.1.1 C.1.2.1 dX10_init_133 rfl (lv_at hl 0 rfl) ?_
  refine n_new C hw cO3 (fs := [.int 0, .int 0, .null, .null, .null, .null]) (fun j hj => by rcases (show j = 0 ∨ j = 1 ∨ j = 2 ∨ j = 3 ∨ j = 4 ∨ j = 5 by omega) with rfl | rfl | rfl | rfl | rfl | rfl <;> rfl) tw1_160 tw1_161 tw1_6 (Nat.le_of_ble_eq_true rfl) (Nat.le_of_ble_eq_true rfl) dX10_init_134 (fun q11 H hw => ?_)
  refine W.widen (k := 134) (n := 4622) (Nat.le_of_ble_eq_true rfl) (Nat.le_of_ble_eq_true rfl) ?_
  refine lv_dup C.1.1 C.1.2.1 dX10_init_137 rfl ?_
  refine n_callN (V := ((a, (Sum.inr (10, [.ref q0, .ref (u0 0), .ref q1, .ref q2, .ref q3, .ref q4, .ref q5, .ref q6, .int 0, .int 0, .int 0, .ref q7, .ref q8, .ref q9, .ref q10, .null, .null, .null, .null]) : va_E)) :: (Fin6 X q0 u0 ++ Fin0 X q1 u1 ++ Fin5 X q2 u2 ++ Fin3 X q3 u3 ++ Fin2 X q4 u4 ++ Fin4 X q5 u5 ++ [(q6, (Sum.inl (X.2.1 3, 4, .inr (.inr (.inr (.inr (fun _ => none))))) : va_E))] ++ Fin0 X q7 u6 ++ Fin4 X q8 u7 ++ Fin0 X q9 u8 ++ Fin5 X q10 u9))) (rest := [.ref q11, .ref a]) C hw (k_X3 l X) (fun h => h.1.2.2.2.2.1) tw1_163 tw1_6 tw1_164 hd_X3_init rfl ⟨⟨rfl, rfl⟩, (Nat.le_of_ble_eq_true rfl), (Nat.le_of_ble_eq_true rfl)⟩ hl.1 (Nat.le_of_ble_eq_true rfl) dX10_init_138 (Nat.le_of_ble_eq_true rfl) (Nat.le_of_ble_eq_true rfl) (fun u10 H locs hw => ?_)
  refine W.widen (k := 138) (n := 4694) (Nat.le_of_ble_eq_true rfl) (Nat.le_of_ble_eq_true rfl) ?_
  have hw : BW X a s.heap.size s.heap ((a, (Sum.inr (10, [.ref q0, .ref (u0 0), .ref q1, .ref q2, .ref q3, .ref q4, .ref q5, .ref q6, .int 0, .int 0, .int 0, .ref q7, .ref q8, .ref q9, .ref q10, .null, .null, .null, .null]) : va_E)) :: (Fin6 X q0 u0 ++ Fin0 X q1 u1 ++ Fin5 X q2 u2 ++ Fin3 X q3 u3 ++ Fin2 X q4 u4 ++ Fin4 X q5 u5 ++ [(q6, (Sum.inl (X.2.1 3, 4, .inr (.inr (.inr (.inr (fun _ => none))))) : va_E))] ++ Fin0 X q7 u6 ++ Fin4 X q8 u7 ++ Fin0 X q9 u8 ++ Fin5 X q10 u9 ++ Fin3 X q11 u10)) H locs := hw
  refine n_put (k := 15) C hw 0 rfl cO10 (by decide) tw2_61 rfl rfl rfl (Nat.le_of_ble_eq_true rfl) rfl rfl dX10_init_141 (fun H locs hw => ?_)
  have hw : BW X a s.heap.size s.heap ((a, (Sum.inr (10, [.ref q0, .ref (u0 0), .ref q1, .ref q2, .ref q3, .ref q4, .ref q5, .ref q6, .int 0, .int 0, .int 0, .ref q7, .ref q8, .ref q9, .ref q10, .ref q11, .null, .null, .null]) : va_E)) :: (Fin6 X q0 u0 ++ Fin0 X q1 u1 ++ Fin5 X q2 u2 ++ Fin3 X q3 u3 ++ Fin2 X q4 u4 ++ Fin4 X q5 u5 ++ [(q6, (Sum.inl (X.2.1 3, 4, .inr (.inr (.inr (.inr (fun _ => none))))) : va_E))] ++ Fin0 X q7 u6 ++ Fin4 X q8 u7 ++ Fin0 X q9 u8 ++ Fin5 X q10 u9 ++ Fin3 X q11 u10)) H locs := hw
  refine lv_aload_n C.1.1 C.1.2.1 dX10_init_144 rfl (lv_at hl 0 rfl) ?_
  refine n_new C hw cO7 (fs := [.int 0, .null, .null, .null]) (fun j hj => by rcases (show j = 0 ∨ j = 1 ∨ j = 2 ∨ j = 3 by omega) with rfl | rfl | rfl | rfl <;> rfl) tw1_235 tw1_237 tw1_9 (Nat.le_of_ble_eq_true rfl) (Nat.le_of_ble_eq_true rfl) dX10_init_145 (fun q12 H hw => ?_)
  refine W.widen (k := 139) (n := 4698) (Nat.le_of_ble_eq_true rfl) (Nat.le_of_ble_eq_true rfl) ?_
  refine lv_dup C.1.1 C.1.2.1 dX10_init_148 rfl ?_
  refine n_callN (V := ((a, (Sum.inr (10, [.ref q0, .ref (u0 0), .ref q1, .ref q2, .ref q3, .ref q4, .ref q5, .ref q6, .int 0, .int 0, .int 0, .ref q7, .ref q8, .ref q9, .ref q10, .ref q11, .null, .null, .null]) : va_E)) :: (Fin6 X q0 u0 ++ Fin0 X q1 u1 ++ Fin5 X q2 u2 ++ Fin3 X q3 u3 ++ Fin2 X q4 u4 ++ Fin4 X q5 u5 ++ [(q6, (Sum.inl (X.2.1 3, 4, .inr (.inr (.inr (.inr (fun _ => none))))) : va_E))] ++ Fin0 X q7 u6 ++ Fin4 X q8 u7 ++ Fin0 X q9 u8 ++ Fin5 X q10 u9 ++ Fin3 X q11 u10))) (rest := [.ref q12, .ref a]) C hw (k_X7 l X) (fun h => h.1.2.2.2.2.2.2.2.1) tw1_239 tw1_9 tw2_0 hd_X7_init rfl ⟨⟨rfl, rfl⟩, (Nat.le_of_ble_eq_true rfl), (Nat.le_of_ble_eq_true rfl)⟩ hl.1 (Nat.le_of_ble_eq_true rfl) dX10_init_149 (Nat.le_of_ble_eq_true rfl) (Nat.le_of_ble_eq_true rfl) (fun u11 H locs hw => ?_)
  refine W.widen (k := 142) (n := 4734) (Nat.le_of_ble_eq_true rfl) (Nat.le_of_ble_eq_true rfl) ?_
  have hw : BW X a s.heap.size s.heap ((a, (Sum.inr (10, [.ref q0, .ref (u0 0), .ref q1, .ref q2, .ref q3, .ref q4, .ref q5, .ref q6, .int 0, .int 0, .int 0, .ref q7, .ref q8, .ref q9, .ref q10, .ref q11, .null, .null, .null]) : va_E)) :: (Fin6 X q0 u0 ++ Fin0 X q1 u1 ++ Fin5 X q2 u2 ++ Fin3 X q3 u3 ++ Fin2 X q4 u4 ++ Fin4 X q5 u5 ++ [(q6, (Sum.inl (X.2.1 3, 4, .inr (.inr (.inr (.inr (fun _ => none))))) : va_E))] ++ Fin0 X q7 u6 ++ Fin4 X q8 u7 ++ Fin0 X q9 u8 ++ Fin5 X q10 u9 ++ Fin3 X q11 u10 ++ Fin7 X q12 u11)) H locs := hw
  refine n_put (k := 16) C hw 0 rfl cO10 (by decide) tw2_62 rfl rfl rfl (Nat.le_of_ble_eq_true rfl) rfl rfl dX10_init_152 (fun H locs hw => ?_)
  have hw : BW X a s.heap.size s.heap ((a, (Sum.inr (10, [.ref q0, .ref (u0 0), .ref q1, .ref q2, .ref q3, .ref q4, .ref q5, .ref q6, .int 0, .int 0, .int 0, .ref q7, .ref q8, .ref q9, .ref q10, .ref q11, .ref q12, .null, .null]) : va_E)) :: (Fin6 X q0 u0 ++ Fin0 X q1 u1 ++ Fin5 X q2 u2 ++ Fin3 X q3 u3 ++ Fin2 X q4 u4 ++ Fin4 X q5 u5 ++ [(q6, (Sum.inl (X.2.1 3, 4, .inr (.inr (.inr (.inr (fun _ => none))))) : va_E))] ++ Fin0 X q7 u6 ++ Fin4 X q8 u7 ++ Fin0 X q9 u8 ++ Fin5 X q10 u9 ++ Fin3 X q11 u10 ++ Fin7 X q12 u11)) H locs := hw
  refine lv_aload_n C.1.1 C.1.2.1 dX10_init_155 rfl (lv_at hl 0 rfl) ?_
  refine n_new C hw cO1 (fs := [.long 0]) (fun j hj => by rcases (show j = 0 by omega) with rfl; rfl) tw2_20 tw2_21 tw1_10 (Nat.le_of_ble_eq_true rfl) (Nat.le_of_ble_eq_true rfl) dX10_init_156 (fun q13 H hw => ?_)
  refine W.widen (k := 143) (n := 4735) (Nat.le_of_ble_eq_true rfl) (Nat.le_of_ble_eq_true rfl) ?_
  refine lv_dup C.1.1 C.1.2.1 dX10_init_159 rfl ?_
  refine n_callN (V := ((a, (Sum.inr (10, [.ref q0, .ref (u0 0), .ref q1, .ref q2, .ref q3, .ref q4, .ref q5, .ref q6, .int 0, .int 0, .int 0, .ref q7, .ref q8, .ref q9, .ref q10, .ref q11, .ref q12, .null, .null]) : va_E)) :: (Fin6 X q0 u0 ++ Fin0 X q1 u1 ++ Fin5 X q2 u2 ++ Fin3 X q3 u3 ++ Fin2 X q4 u4 ++ Fin4 X q5 u5 ++ [(q6, (Sum.inl (X.2.1 3, 4, .inr (.inr (.inr (.inr (fun _ => none))))) : va_E))] ++ Fin0 X q7 u6 ++ Fin4 X q8 u7 ++ Fin0 X q9 u8 ++ Fin5 X q10 u9 ++ Fin3 X q11 u10 ++ Fin7 X q12 u11))) (rest := [.ref q13, .ref a]) C hw (k_X1 l X) (fun h => h.1.2.2.2.2.2.2.2.2.1) tw2_23 tw1_10 tw2_24 hd_X1_init rfl ⟨⟨rfl, rfl⟩, (Nat.le_of_ble_eq_true rfl), (Nat.le_of_ble_eq_true rfl)⟩ hl.1 (Nat.le_of_ble_eq_true rfl) dX10_init_160 (Nat.le_of_ble_eq_true rfl) (Nat.le_of_ble_eq_true rfl) (fun u12 H locs hw => ?_)
  refine W.widen (k := 143) (n := 4735) (Nat.le_of_ble_eq_true rfl) (Nat.le_of_ble_eq_true rfl) ?_
  have hw : BW X a s.heap.size s.heap ((a, (Sum.inr (10, [.ref q0, .ref (u0 0), .ref q1, .ref q2, .ref q3, .ref q4, .ref q5, .ref q6, .int 0, .int 0, .int 0, .ref q7, .ref q8, .ref q9, .ref q10, .ref q11, .ref q12, .null, .null]) : va_E)) :: (Fin6 X q0 u0 ++ Fin0 X q1 u1 ++ Fin5 X q2 u2 ++ Fin3 X q3 u3 ++ Fin2 X q4 u4 ++ Fin4 X q5 u5 ++ [(q6, (Sum.inl (X.2.1 3, 4, .inr (.inr (.inr (.inr (fun _ => none))))) : va_E))] ++ Fin0 X q7 u6 ++ Fin4 X q8 u7 ++ Fin0 X q9 u8 ++ Fin5 X q10 u9 ++ Fin3 X q11 u10 ++ Fin7 X q12 u11 ++ Fin1 X q13 u12)) H locs := hw
  refine n_put (k := 17) C hw 0 rfl cO10 (by decide) tw2_63 rfl rfl rfl (Nat.le_of_ble_eq_true rfl) rfl rfl dX10_init_163 (fun H locs hw => ?_)
  have hw : BW X a s.heap.size s.heap ((a, (Sum.inr (10, [.ref q0, .ref (u0 0), .ref q1, .ref q2, .ref q3, .ref q4, .ref q5, .ref q6, .int 0, .int 0, .int 0, .ref q7, .ref q8, .ref q9, .ref q10, .ref q11, .ref q12, .ref q13, .null]) : va_E)) :: (Fin6 X q0 u0 ++ Fin0 X q1 u1 ++ Fin5 X q2 u2 ++ Fin3 X q3 u3 ++ Fin2 X q4 u4 ++ Fin4 X q5 u5 ++ [(q6, (Sum.inl (X.2.1 3, 4, .inr (.inr (.inr (.inr (fun _ => none))))) : va_E))] ++ Fin0 X q7 u6 ++ Fin4 X q8 u7 ++ Fin0 X q9 u8 ++ Fin5 X q10 u9 ++ Fin3 X q11 u10 ++ Fin7 X q12 u11 ++ Fin1 X q13 u12)) H locs := hw
  refine lv_aload_n C.1.1 C.1.2.1 dX10_init_166 rfl (lv_at hl 0 rfl) ?_
  refine n_new C hw cO8 (fs := [.null, .int 0]) (fun j hj => by rcases (show j = 0 ∨ j = 1 by omega) with rfl | rfl <;> rfl) tw2_31 tw2_32 tw1_11 (Nat.le_of_ble_eq_true rfl) (Nat.le_of_ble_eq_true rfl) dX10_init_167 (fun q14 H hw => ?_)
  refine W.widen (k := 144) (n := 4737) (Nat.le_of_ble_eq_true rfl) (Nat.le_of_ble_eq_true rfl) ?_
  refine lv_dup C.1.1 C.1.2.1 dX10_init_170 rfl ?_
  refine n_callN (V := ((a, (Sum.inr (10, [.ref q0, .ref (u0 0), .ref q1, .ref q2, .ref q3, .ref q4, .ref q5, .ref q6, .int 0, .int 0, .int 0, .ref q7, .ref q8, .ref q9, .ref q10, .ref q11, .ref q12, .ref q13, .null]) : va_E)) :: (Fin6 X q0 u0 ++ Fin0 X q1 u1 ++ Fin5 X q2 u2 ++ Fin3 X q3 u3 ++ Fin2 X q4 u4 ++ Fin4 X q5 u5 ++ [(q6, (Sum.inl (X.2.1 3, 4, .inr (.inr (.inr (.inr (fun _ => none))))) : va_E))] ++ Fin0 X q7 u6 ++ Fin4 X q8 u7 ++ Fin0 X q9 u8 ++ Fin5 X q10 u9 ++ Fin3 X q11 u10 ++ Fin7 X q12 u11 ++ Fin1 X q13 u12))) (rest := [.ref q14, .ref a]) C hw (k_X8 l X) (fun h => h.1.2.2.2.2.2.2.2.2.2) tw2_34 tw1_11 tw2_35 hd_X8_init rfl ⟨⟨rfl, rfl⟩, (Nat.le_of_ble_eq_true rfl), (Nat.le_of_ble_eq_true rfl)⟩ hl.1 (Nat.le_of_ble_eq_true rfl) dX10_init_171 (Nat.le_of_ble_eq_true rfl) (Nat.le_of_ble_eq_true rfl) (fun u13 H locs hw => ?_)
  refine W.widen (k := 145) (n := 4750) (Nat.le_of_ble_eq_true rfl) (Nat.le_of_ble_eq_true rfl) ?_
  have hw : BW X a s.heap.size s.heap ((a, (Sum.inr (10, [.ref q0, .ref (u0 0), .ref q1, .ref q2, .ref q3, .ref q4, .ref q5, .ref q6, .int 0, .int 0, .int 0, .ref q7, .ref q8, .ref q9, .ref q10, .ref q11, .ref q12, .ref q13, .null]) : va_E)) :: (Fin6 X q0 u0 ++ Fin0 X q1 u1 ++ Fin5 X q2 u2 ++ Fin3 X q3 u3 ++ Fin2 X q4 u4 ++ Fin4 X q5 u5 ++ [(q6, (Sum.inl (X.2.1 3, 4, .inr (.inr (.inr (.inr (fun _ => none))))) : va_E))] ++ Fin0 X q7 u6 ++ Fin4 X q8 u7 ++ Fin0 X q9 u8 ++ Fin5 X q10 u9 ++ Fin3 X q11 u10 ++ Fin7 X q12 u11 ++ Fin1 X q13 u12 ++ Fin8 X q14 u13)) H locs := hw
  refine n_put (k := 18) C hw 0 rfl cO10 (by decide) tw2_64 rfl rfl rfl (Nat.le_of_ble_eq_true rfl) rfl rfl dX10_init_174 (fun H locs hw => ?_)
  have hw : BW X a s.heap.size s.heap ((a, (Sum.inr (10, [.ref q0, .ref (u0 0), .ref q1, .ref q2, .ref q3, .ref q4, .ref q5, .ref q6, .int 0, .int 0, .int 0, .ref q7, .ref q8, .ref q9, .ref q10, .ref q11, .ref q12, .ref q13, .ref q14]) : va_E)) :: (Fin6 X q0 u0 ++ Fin0 X q1 u1 ++ Fin5 X q2 u2 ++ Fin3 X q3 u3 ++ Fin2 X q4 u4 ++ Fin4 X q5 u5 ++ [(q6, (Sum.inl (X.2.1 3, 4, .inr (.inr (.inr (.inr (fun _ => none))))) : va_E))] ++ Fin0 X q7 u6 ++ Fin4 X q8 u7 ++ Fin0 X q9 u8 ++ Fin5 X q10 u9 ++ Fin3 X q11 u10 ++ Fin7 X q12 u11 ++ Fin1 X q13 u12 ++ Fin8 X q14 u13)) H locs := hw
  have hV : ((a, (Sum.inr (10, [.ref q0, .ref (u0 0), .ref q1, .ref q2, .ref q3, .ref q4, .ref q5, .ref q6, .int 0, .int 0, .int 0, .ref q7, .ref q8, .ref q9, .ref q10, .ref q11, .ref q12, .ref q13, .ref q14]) : va_E)) :: (Fin6 X q0 u0 ++ Fin0 X q1 u1 ++ Fin5 X q2 u2 ++ Fin3 X q3 u3 ++ Fin2 X q4 u4 ++ Fin4 X q5 u5 ++ [(q6, (Sum.inl (X.2.1 3, 4, .inr (.inr (.inr (.inr (fun _ => none))))) : va_E))] ++ Fin0 X q7 u6 ++ Fin4 X q8 u7 ++ Fin0 X q9 u8 ++ Fin5 X q10 u9 ++ Fin3 X q11 u10 ++ Fin7 X q12 u11 ++ Fin1 X q13 u12 ++ Fin8 X q14 u13)) = ((((a, (Sum.inr (10, [.ref q0, .ref (u0 0), .ref q1, .ref q2, .ref q3, .ref q4, .ref q5, .ref q6, .int 0, .int 0, .int 0, .ref q7, .ref q8, .ref q9, .ref q10, .ref q11, .ref q12, .ref q13, .ref q14]) : va_E)) :: (Fin6 X q0 u0 ++ Fin0 X q1 u1 ++ Fin5 X q2 u2 ++ Fin3 X q3 u3 ++ Fin2 X q4 u4 ++ Fin4 X q5 u5)) ++ [(q6, (Sum.inl (X.2.1 3, 4, .inr (.inr (.inr (.inr (fun _ => none))))) : va_E))]) ++ (Fin0 X q7 u6 ++ Fin4 X q8 u7 ++ Fin0 X q9 u8 ++ Fin5 X q10 u9 ++ Fin3 X q11 u10 ++ Fin7 X q12 u11 ++ Fin1 X q13 u12 ++ Fin8 X q14 u13)) := by simp only [List.cons_append, List.nil_append, List.append_assoc]
  rw [hV] at hw
  clear hV
  refine lv_iconst (v := 0) C.1.1 C.1.2.1 dX10_init_177 (by decide) ?_
  refine lv_istore_n (lv' := [(1, .int 0), (0, .ref a)]) C.1.1 C.1.2.1 dX10_init_178 rfl hl (by decide) rfl (fun ls hl => ?_)
  refine lv_iload_n C.1.1 C.1.2.1 dX10_init_179 rfl (lv_at hl 0 rfl) ?_
  refine lv_iconst (v := 4) C.1.1 C.1.2.1 dX10_init_180 (by decide) ?_
  refine lv_icmp_ge (tgt := 203) C.1.1 C.1.2.1 dX10_init_181 (by decide) (fun h => absurd h (by decide)) (fun _ => ?_)
  refine lv_aload_n C.1.1 C.1.2.1 dX10_init_184 rfl (lv_at hl 1 rfl) ?_
  refine n_get (k := 7) C hw 0 (get_h _ _ _ _) cO10 (by decide) tw2_53 rfl rfl dX10_init_185 ?_
  refine lv_iload_n C.1.1 C.1.2.1 dX10_init_188 rfl (lv_at hl 0 rfl) ?_
  refine n_new C hw cO7 (fs := [.int 0, .null, .null, .null]) (fun j hj => by rcases (show j = 0 ∨ j = 1 ∨ j = 2 ∨ j = 3 by omega) with rfl | rfl | rfl | rfl <;> rfl) tw1_235 tw1_237 tw1_9 (Nat.le_of_ble_eq_true rfl) (Nat.le_of_ble_eq_true rfl) dX10_init_189 (fun q15 H hw => ?_)
  refine W.widen (k := 146) (n := 4754) (Nat.le_of_ble_eq_true rfl) (Nat.le_of_ble_eq_true rfl) ?_
  refine lv_dup C.1.1 C.1.2.1 dX10_init_192 rfl ?_
  refine n_callN (V := ((((a, (Sum.inr (10, [.ref q0, .ref (u0 0), .ref q1, .ref q2, .ref q3, .ref q4, .ref q5, .ref q6, .int 0, .int 0, .int 0, .ref q7, .ref q8, .ref q9, .ref q10, .ref q11, .ref q12, .ref q13, .ref q14]) : va_E)) :: (Fin6 X q0 u0 ++ Fin0 X q1 u1 ++ Fin5 X q2 u2 ++ Fin3 X q3 u3 ++ Fin2 X q4 u4 ++ Fin4 X q5 u5)) ++ [(q6, (Sum.inl (X.2.1 3, 4, .inr (.inr (.inr (.inr (fun _ => none))))) : va_E))]) ++ (Fin0 X q7 u6 ++ Fin4 X q8 u7 ++ Fin0 X q9 u8 ++ Fin5 X q10 u9 ++ Fin3 X q11 u10 ++ Fin7 X q12 u11 ++ Fin1 X q13 u12 ++ Fin8 X q14 u13))) (rest := [.ref q15, .int 0, .ref q6]) C hw (k_X7 l X) (fun h => h.1.2.2.2.2.2.2.2.1) tw1_239 tw1_9 tw2_0 hd_X7_init rfl ⟨⟨rfl, rfl⟩, (Nat.le_of_ble_eq_true rfl), (Nat.le_of_ble_eq_true rfl)⟩ hl.1 (Nat.le_of_ble_eq_true rfl) dX10_init_193 (Nat.le_of_ble_eq_true rfl) (Nat.le_of_ble_eq_true rfl) (fun u14 H locs hw => ?_)
  refine W.widen (k := 149) (n := 4790) (Nat.le_of_ble_eq_true rfl) (Nat.le_of_ble_eq_true rfl) ?_
  rw [List.append_assoc] at hw
  refine n_ast C hw _ 3 _ 7 (get_m _ _ _ _) rfl (get_e _ _ _ _ _ _) rfl (by unfold vp_in; decide) dX10_init_196 (fun H locs hw => ?_)
  rw [set_m] at hw
  have hw : BW X a s.heap.size s.heap ((((a, (Sum.inr (10, [.ref q0, .ref (u0 0), .ref q1, .ref q2, .ref q3, .ref q4, .ref q5, .ref q6, .int 0, .int 0, .int 0, .ref q7, .ref q8, .ref q9, .ref q10, .ref q11, .ref q12, .ref q13, .ref q14]) : va_E)) :: (Fin6 X q0 u0 ++ Fin0 X q1 u1 ++ Fin5 X q2 u2 ++ Fin3 X q3 u3 ++ Fin2 X q4 u4 ++ Fin4 X q5 u5)) ++ [(q6, (Sum.inl (X.2.1 3, 4, .inr (.inr (.inr (.inr (va_up (fun _ => none) 0 (some q15)))))) : va_E))]) ++ (Fin0 X q7 u6 ++ Fin4 X q8 u7 ++ Fin0 X q9 u8 ++ Fin5 X q10 u9 ++ Fin3 X q11 u10 ++ Fin7 X q12 u11 ++ Fin1 X q13 u12 ++ Fin8 X q14 u13 ++ Fin7 X q15 u14)) H locs := hw
  refine lv_iinc (v := 1) (lv' := [(1, .int 1), (0, .ref a)]) C.1.1 C.1.2.1 dX10_init_197 hl (k := 0) rfl (by decide) (by decide) rfl (fun ls hl => ?_)
  refine lv_goto (tgt := 179) C.1.1 C.1.2.1 dX10_init_200 (by decide) ?_
  refine lv_iload_n C.1.1 C.1.2.1 dX10_init_179 rfl (lv_at hl 0 rfl) ?_
  refine lv_iconst (v := 4) C.1.1 C.1.2.1 dX10_init_180 (by decide) ?_
  refine lv_icmp_ge (tgt := 203) C.1.1 C.1.2.1 dX10_init_181 (by decide) (fun h => absurd h (by decide)) (fun _ => ?_)
  refine lv_aload_n C.1.1 C.1.2.1 dX10_init_184 rfl (lv_at hl 1 rfl) ?_
  refine n_get (k := 7) C hw 0 (get_h _ _ _ _) cO10 (by decide) tw2_53 rfl rfl dX10_init_185 ?_
  refine lv_iload_n C.1.1 C.1.2.1 dX10_init_188 rfl (lv_at hl 0 rfl) ?_
  refine n_new C hw cO7 (fs := [.int 0, .null, .null, .null]) (fun j hj => by rcases (show j = 0 ∨ j = 1 ∨ j = 2 ∨ j = 3 by omega) with rfl | rfl | rfl | rfl <;> rfl) tw1_235 tw1_237 tw1_9 (Nat.le_of_ble_eq_true rfl) (Nat.le_of_ble_eq_true rfl) dX10_init_189 (fun q16 H hw => ?_)
  refine W.widen (k := 150) (n := 4794) (Nat.le_of_ble_eq_true rfl) (Nat.le_of_ble_eq_true rfl) ?_
  refine lv_dup C.1.1 C.1.2.1 dX10_init_192 rfl ?_
  refine n_callN (V := ((((a, (Sum.inr (10, [.ref q0, .ref (u0 0), .ref q1, .ref q2, .ref q3, .ref q4, .ref q5, .ref q6, .int 0, .int 0, .int 0, .ref q7, .ref q8, .ref q9, .ref q10, .ref q11, .ref q12, .ref q13, .ref q14]) : va_E)) :: (Fin6 X q0 u0 ++ Fin0 X q1 u1 ++ Fin5 X q2 u2 ++ Fin3 X q3 u3 ++ Fin2 X q4 u4 ++ Fin4 X q5 u5)) ++ [(q6, (Sum.inl (X.2.1 3, 4, .inr (.inr (.inr (.inr (va_up (fun _ => none) 0 (some q15)))))) : va_E))]) ++ (Fin0 X q7 u6 ++ Fin4 X q8 u7 ++ Fin0 X q9 u8 ++ Fin5 X q10 u9 ++ Fin3 X q11 u10 ++ Fin7 X q12 u11 ++ Fin1 X q13 u12 ++ Fin8 X q14 u13 ++ Fin7 X q15 u14))) (rest := [.ref q16, .int 1, .ref q6]) C hw (k_X7 l X) (fun h => h.1.2.2.2.2.2.2.2.1) tw1_239 tw1_9 tw2_0 hd_X7_init rfl ⟨⟨rfl, rfl⟩, (Nat.le_of_ble_eq_true rfl), (Nat.le_of_ble_eq_true rfl)⟩ hl.1 (Nat.le_of_ble_eq_true rfl) dX10_init_193 (Nat.le_of_ble_eq_true rfl) (Nat.le_of_ble_eq_true rfl) (fun u15 H locs hw => ?_)
  refine W.widen (k := 153) (n := 4830) (Nat.le_of_ble_eq_true rfl) (Nat.le_of_ble_eq_true rfl) ?_
  rw [List.append_assoc] at hw
  refine n_ast C hw _ 3 _ 7 (get_m _ _ _ _) rfl (get_e _ _ _ _ _ _) rfl (by unfold vp_in; decide) dX10_init_196 (fun H locs hw => ?_)
  rw [set_m] at hw
  have hw : BW X a s.heap.size s.heap ((((a, (Sum.inr (10, [.ref q0, .ref (u0 0), .ref q1, .ref q2, .ref q3, .ref q4, .ref q5, .ref q6, .int 0, .int 0, .int 0, .ref q7, .ref q8, .ref q9, .ref q10, .ref q11, .ref q12, .ref q13, .ref q14]) : va_E)) :: (Fin6 X q0 u0 ++ Fin0 X q1 u1 ++ Fin5 X q2 u2 ++ Fin3 X q3 u3 ++ Fin2 X q4 u4 ++ Fin4 X q5 u5)) ++ [(q6, (Sum.inl (X.2.1 3, 4, .inr (.inr (.inr (.inr (va_up (va_up (fun _ => none) 0 (some q15)) 1 (some q16)))))) : va_E))]) ++ (Fin0 X q7 u6 ++ Fin4 X q8 u7 ++ Fin0 X q9 u8 ++ Fin5 X q10 u9 ++ Fin3 X q11 u10 ++ Fin7 X q12 u11 ++ Fin1 X q13 u12 ++ Fin8 X q14 u13 ++ Fin7 X q15 u14 ++ Fin7 X q16 u15)) H locs := hw
  refine lv_iinc (v := 2) (lv' := [(1, .int 2), (0, .ref a)]) C.1.1 C.1.2.1 dX10_init_197 hl (k := 0) rfl (by decide) (by decide) rfl (fun ls hl => ?_)
  refine lv_goto (tgt := 179) C.1.1 C.1.2.1 dX10_init_200 (by decide) ?_
  refine lv_iload_n C.1.1 C.1.2.1 dX10_init_179 rfl (lv_at hl 0 rfl) ?_
  refine lv_iconst (v := 4) C.1.1 C.1.2.1 dX10_init_180 (by decide) ?_
  refine lv_icmp_ge (tgt := 203) C.1.1 C.1.2.1 dX10_init_181 (by decide) (fun h => absurd h (by decide)) (fun _ => ?_)
  refine lv_aload_n C.1.1 C.1.2.1 dX10_init_184 rfl (lv_at hl 1 rfl) ?_
  refine n_get (k := 7) C hw 0 (get_h _ _ _ _) cO10 (by decide) tw2_53 rfl rfl dX10_init_185 ?_
  refine lv_iload_n C.1.1 C.1.2.1 dX10_init_188 rfl (lv_at hl 0 rfl) ?_
  refine n_new C hw cO7 (fs := [.int 0, .null, .null, .null]) (fun j hj => by rcases (show j = 0 ∨ j = 1 ∨ j = 2 ∨ j = 3 by omega) with rfl | rfl | rfl | rfl <;> rfl) tw1_235 tw1_237 tw1_9 (Nat.le_of_ble_eq_true rfl) (Nat.le_of_ble_eq_true rfl) dX10_init_189 (fun q17 H hw => ?_)
  refine W.widen (k := 154) (n := 4834) (Nat.le_of_ble_eq_true rfl) (Nat.le_of_ble_eq_true rfl) ?_
  refine lv_dup C.1.1 C.1.2.1 dX10_init_192 rfl ?_
  refine n_callN (V := ((((a, (Sum.inr (10, [.ref q0, .ref (u0 0), .ref q1, .ref q2, .ref q3, .ref q4, .ref q5, .ref q6, .int 0, .int 0, .int 0, .ref q7, .ref q8, .ref q9, .ref q10, .ref q11, .ref q12, .ref q13, .ref q14]) : va_E)) :: (Fin6 X q0 u0 ++ Fin0 X q1 u1 ++ Fin5 X q2 u2 ++ Fin3 X q3 u3 ++ Fin2 X q4 u4 ++ Fin4 X q5 u5)) ++ [(q6, (Sum.inl (X.2.1 3, 4, .inr (.inr (.inr (.inr (va_up (va_up (fun _ => none) 0 (some q15)) 1 (some q16)))))) : va_E))]) ++ (Fin0 X q7 u6 ++ Fin4 X q8 u7 ++ Fin0 X q9 u8 ++ Fin5 X q10 u9 ++ Fin3 X q11 u10 ++ Fin7 X q12 u11 ++ Fin1 X q13 u12 ++ Fin8 X q14 u13 ++ Fin7 X q15 u14 ++ Fin7 X q16 u15))) (rest := [.ref q17, .int 2, .ref q6]) C hw (k_X7 l X) (fun h => h.1.2.2.2.2.2.2.2.1) tw1_239 tw1_9 tw2_0 hd_X7_init rfl ⟨⟨rfl, rfl⟩, (Nat.le_of_ble_eq_true rfl), (Nat.le_of_ble_eq_true rfl)⟩ hl.1 (Nat.le_of_ble_eq_true rfl) dX10_init_193 (Nat.le_of_ble_eq_true rfl) (Nat.le_of_ble_eq_true rfl) (fun u16 H locs hw => ?_)
  refine W.widen (k := 157) (n := 4870) (Nat.le_of_ble_eq_true rfl) (Nat.le_of_ble_eq_true rfl) ?_
  rw [List.append_assoc] at hw
  refine n_ast C hw _ 3 _ 7 (get_m _ _ _ _) rfl (get_e _ _ _ _ _ _) rfl (by unfold vp_in; decide) dX10_init_196 (fun H locs hw => ?_)
  rw [set_m] at hw
  have hw : BW X a s.heap.size s.heap ((((a, (Sum.inr (10, [.ref q0, .ref (u0 0), .ref q1, .ref q2, .ref q3, .ref q4, .ref q5, .ref q6, .int 0, .int 0, .int 0, .ref q7, .ref q8, .ref q9, .ref q10, .ref q11, .ref q12, .ref q13, .ref q14]) : va_E)) :: (Fin6 X q0 u0 ++ Fin0 X q1 u1 ++ Fin5 X q2 u2 ++ Fin3 X q3 u3 ++ Fin2 X q4 u4 ++ Fin4 X q5 u5)) ++ [(q6, (Sum.inl (X.2.1 3, 4, .inr (.inr (.inr (.inr (va_up (va_up (va_up (fun _ => none) 0 (some q15)) 1 (some q16)) 2 (some q17)))))) : va_E))]) ++ (Fin0 X q7 u6 ++ Fin4 X q8 u7 ++ Fin0 X q9 u8 ++ Fin5 X q10 u9 ++ Fin3 X q11 u10 ++ Fin7 X q12 u11 ++ Fin1 X q13 u12 ++ Fin8 X q14 u13 ++ Fin7 X q15 u14 ++ Fin7 X q16 u15 ++ Fin7 X q17 u16)) H locs := hw
  refine lv_iinc (v := 3) (lv' := [(1, .int 3), (0, .ref a)]) C.1.1 C.1.2.1 dX10_init_197 hl (k := 0) rfl (by decide) (by decide) rfl (fun ls hl => ?_)
  refine lv_goto (tgt := 179) C.1.1 C.1.2.1 dX10_init_200 (by decide) ?_
  refine lv_iload_n C.1.1 C.1.2.1 dX10_init_179 rfl (lv_at hl 0 rfl) ?_
  refine lv_iconst (v := 4) C.1.1 C.1.2.1 dX10_init_180 (by decide) ?_
  refine lv_icmp_ge (tgt := 203) C.1.1 C.1.2.1 dX10_init_181 (by decide) (fun h => absurd h (by decide)) (fun _ => ?_)
  refine lv_aload_n C.1.1 C.1.2.1 dX10_init_184 rfl (lv_at hl 1 rfl) ?_
  refine n_get (k := 7) C hw 0 (get_h _ _ _ _) cO10 (by decide) tw2_53 rfl rfl dX10_init_185 ?_
  refine lv_iload_n C.1.1 C.1.2.1 dX10_init_188 rfl (lv_at hl 0 rfl) ?_
  refine n_new C hw cO7 (fs := [.int 0, .null, .null, .null]) (fun j hj => by rcases (show j = 0 ∨ j = 1 ∨ j = 2 ∨ j = 3 by omega) with rfl | rfl | rfl | rfl <;> rfl) tw1_235 tw1_237 tw1_9 (Nat.le_of_ble_eq_true rfl) (Nat.le_of_ble_eq_true rfl) dX10_init_189 (fun q18 H hw => ?_)
  refine W.widen (k := 158) (n := 4874) (Nat.le_of_ble_eq_true rfl) (Nat.le_of_ble_eq_true rfl) ?_
  refine lv_dup C.1.1 C.1.2.1 dX10_init_192 rfl ?_
  refine n_callN (V := ((((a, (Sum.inr (10, [.ref q0, .ref (u0 0), .ref q1, .ref q2, .ref q3, .ref q4, .ref q5, .ref q6, .int 0, .int 0, .int 0, .ref q7, .ref q8, .ref q9, .ref q10, .ref q11, .ref q12, .ref q13, .ref q14]) : va_E)) :: (Fin6 X q0 u0 ++ Fin0 X q1 u1 ++ Fin5 X q2 u2 ++ Fin3 X q3 u3 ++ Fin2 X q4 u4 ++ Fin4 X q5 u5)) ++ [(q6, (Sum.inl (X.2.1 3, 4, .inr (.inr (.inr (.inr (va_up (va_up (va_up (fun _ => none) 0 (some q15)) 1 (some q16)) 2 (some q17)))))) : va_E))]) ++ (Fin0 X q7 u6 ++ Fin4 X q8 u7 ++ Fin0 X q9 u8 ++ Fin5 X q10 u9 ++ Fin3 X q11 u10 ++ Fin7 X q12 u11 ++ Fin1 X q13 u12 ++ Fin8 X q14 u13 ++ Fin7 X q15 u14 ++ Fin7 X q16 u15 ++ Fin7 X q17 u16))) (rest := [.ref q18, .int 3, .ref q6]) C hw (k_X7 l X) (fun h => h.1.2.2.2.2.2.2.2.1) tw1_239 tw1_9 tw2_0 hd_X7_init rfl ⟨⟨rfl, rfl⟩, (Nat.le_of_ble_eq_true rfl), (Nat.le_of_ble_eq_true rfl)⟩ hl.1 (Nat.le_of_ble_eq_true rfl) dX10_init_193 (Nat.le_of_ble_eq_true rfl) (Nat.le_of_ble_eq_true rfl) (fun u17 H locs hw => ?_)
  refine W.widen (k := 161) (n := 4910) (Nat.le_of_ble_eq_true rfl) (Nat.le_of_ble_eq_true rfl) ?_
  rw [List.append_assoc] at hw
  refine n_ast C hw _ 3 _ 7 (get_m _ _ _ _) rfl (get_e _ _ _ _ _ _) rfl (by unfold vp_in; decide) dX10_init_196 (fun H locs hw => ?_)
  rw [set_m] at hw
  have hw : BW X a s.heap.size s.heap ((((a, (Sum.inr (10, [.ref q0, .ref (u0 0), .ref q1, .ref q2, .ref q3, .ref q4, .ref q5, .ref q6, .int 0, .int 0, .int 0, .ref q7, .ref q8, .ref q9, .ref q10, .ref q11, .ref q12, .ref q13, .ref q14]) : va_E)) :: (Fin6 X q0 u0 ++ Fin0 X q1 u1 ++ Fin5 X q2 u2 ++ Fin3 X q3 u3 ++ Fin2 X q4 u4 ++ Fin4 X q5 u5)) ++ [(q6, (Sum.inl (X.2.1 3, 4, .inr (.inr (.inr (.inr (va_up (va_up (va_up (va_up (fun _ => none) 0 (some q15)) 1 (some q16)) 2 (some q17)) 3 (some q18)))))) : va_E))]) ++ (Fin0 X q7 u6 ++ Fin4 X q8 u7 ++ Fin0 X q9 u8 ++ Fin5 X q10 u9 ++ Fin3 X q11 u10 ++ Fin7 X q12 u11 ++ Fin1 X q13 u12 ++ Fin8 X q14 u13 ++ Fin7 X q15 u14 ++ Fin7 X q16 u15 ++ Fin7 X q17 u16 ++ Fin7 X q18 u17)) H locs := hw
  refine lv_iinc (v := 4) (lv' := [(1, .int 4), (0, .ref a)]) C.1.1 C.1.2.1 dX10_init_197 hl (k := 0) rfl (by decide) (by decide) rfl (fun ls hl => ?_)
  refine lv_goto (tgt := 179) C.1.1 C.1.2.1 dX10_init_200 (by decide) ?_
  refine lv_iload_n C.1.1 C.1.2.1 dX10_init_179 rfl (lv_at hl 0 rfl) ?_
  refine lv_iconst (v := 4) C.1.1 C.1.2.1 dX10_init_180 (by decide) ?_
  refine lv_icmp_ge (tgt := 203) C.1.1 C.1.2.1 dX10_init_181 (by decide) (fun _ => ?_) (fun h => absurd (by decide) h)
  obtain ⟨q, hq0, hq1, hq2, hq3, hq4, hq5, hq6, hq7, hq8, hq9, hq10, hq11, hq12, hq13, hq14, hq15, hq16, hq17, hq18⟩ : ∃ q : Nat → Nat, q 0 = q0 ∧ q 1 = q1 ∧ q 2 = q2 ∧ q 3 = q3 ∧ q 4 = q4 ∧ q 5 = q5 ∧ q 6 = q6 ∧ q 7 = q7 ∧ q 8 = q8 ∧ q 9 = q9 ∧ q 10 = q10 ∧ q 11 = q11 ∧ q 12 = q12 ∧ q 13 = q13 ∧ q 14 = q14 ∧ q 15 = q15 ∧ q 16 = q16 ∧ q 17 = q17 ∧ q 18 = q18 := ⟨(fun k => match k with | 0 => q0 | 1 => q1 | 2 => q2 | 3 => q3 | 4 => q4 | 5 => q5 | 6 => q6 | 7 => q7 | 8 => q8 | 9 => q9 | 10 => q10 | 11 => q11 | 12 => q12 | 13 => q13 | 14 => q14 | 15 => q15 | 16 => q16 | 17 => q17 | 18 => q18 | _ => 0), rfl, rfl, rfl, rfl, rfl, rfl, rfl, rfl, rfl, rfl, rfl, rfl, rfl, rfl, rfl, rfl, rfl, rfl, rfl⟩
  obtain ⟨u, hu0, hu1, hu2, hu3, hu4, hu5, hu6, hu7, hu8, hu9, hu10, hu11, hu12, hu13, hu14, hu15, hu16, hu17⟩ : ∃ u : Nat → Nat → Nat, u 0 = u0 ∧ u 1 = u1 ∧ u 2 = u2 ∧ u 3 = u3 ∧ u 4 = u4 ∧ u 5 = u5 ∧ u 6 = u6 ∧ u 7 = u7 ∧ u 8 = u8 ∧ u 9 = u9 ∧ u 10 = u10 ∧ u 11 = u11 ∧ u 12 = u12 ∧ u 13 = u13 ∧ u 14 = u14 ∧ u 15 = u15 ∧ u 16 = u16 ∧ u 17 = u17 := ⟨(fun k => match k with | 0 => u0 | 1 => u1 | 2 => u2 | 3 => u3 | 4 => u4 | 5 => u5 | 6 => u6 | 7 => u7 | 8 => u8 | 9 => u9 | 10 => u10 | 11 => u11 | 12 => u12 | 13 => u13 | 14 => u14 | 15 => u15 | 16 => u16 | 17 => u17 | _ => fun _ => 0), rfl, rfl, rfl, rfl, rfl, rfl, rfl, rfl, rfl, rfl, rfl, rfl, rfl, rfl, rfl, rfl, rfl, rfl⟩
  subst hq0
  subst hq1
  subst hq2
  subst hq3
  subst hq4
  subst hq5
  subst hq6
  subst hq7
  subst hq8
  subst hq9
  subst hq10
  subst hq11
  subst hq12
  subst hq13
  subst hq14
  subst hq15
  subst hq16
  subst hq17
  subst hq18
  subst hu0
  subst hu1
  subst hu2
  subst hu3
  subst hu4
  subst hu5
  subst hu6
  subst hu7
  subst hu8
  subst hu9
  subst hu10
  subst hu11
  subst hu12
  subst hu13
  subst hu14
  subst hu15
  subst hu16
  subst hu17
  have hw : BW X a s.heap.size s.heap (VX X a q u) H locs := hw
  exact n_ret (Fin := Fin10) C _ (vx_conv hw) dX10_init_203
