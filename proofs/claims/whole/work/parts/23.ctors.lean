def Fin0 (X : XT) (a : Nat) (u : Nat → Nat) : va_W := [(a, .inr (0, [.ref (u 0), .int 0, .int 0])), (u 0, .inl (X.2.1 0, 48, .inl (fun _ => 0)))]
abbrev rmX0_init : Room := { frames := 1, cells := 1, slots := 48, locals := 12 }
theorem hd_X0_init : yX0_init.cls ≠ "java/lang/invoke/MethodHandle" ∧ yX0_init.cls ≠ "java/lang/invoke/VarHandle" ∧ (parseMethodDescriptor yX0_init.desc).map (fun d => d.parameters.length) = some 0 := by decide +kernel
set_option maxRecDepth 100000 in
set_option maxHeartbeats 4000000 in
theorem k_X0 (l : Launch) (X : XT) : NC l X yX0_init cX0_init 1 rmX0_init 0 [.null, .int 0, .int 0] Fin0 1 48 := by
  refine met_N (own := RX0) (by decide) rfl rfl (by decide) (fun p e s m args below meth c a C ls hw hl => ?_)
  refine lv_aload_n C.1.1 C.1.2.1 dX0_init_0 rfl (lv_at hl 0 rfl) ?_
  refine n_obj C tw1_84 tw1_29 tw1_30 hl.1 dX0_init_1 (Nat.le_of_ble_eq_true rfl) (Nat.le_of_ble_eq_true rfl) ?_
  refine lv_aload_n C.1.1 C.1.2.1 dX0_init_4 rfl (lv_at hl 0 rfl) ?_
  refine lv_bipush (v := 48) C.1.1 C.1.2.1 dX0_init_5 (by decide) ?_
  refine n_newI C hw tw1_104 (N := 48) (by decide) (by decide) (Nat.le_of_ble_eq_true rfl) (Nat.le_of_ble_eq_true rfl) (Nat.le_of_ble_eq_true rfl) dX0_init_7 (fun q1 H hw => ?_)
  refine W.widen (k := 1) (n := 48) (Nat.le_of_ble_eq_true rfl) (Nat.le_of_ble_eq_true rfl) ?_
  refine n_put (k := 0) C hw 0 rfl cO0 (by decide) tw1_85 rfl rfl rfl (Nat.le_of_ble_eq_true rfl) rfl rfl dX0_init_9 (fun H locs hw => ?_)
  have hw : BW X a s.heap.size s.heap [(a, .inr (0, [.ref q1, .int 0, .int 0])), (q1, .inl (X.2.1 0, 48, .inl (fun _ => 0)))] H locs := hw
  exact n_ret (Fin := Fin0) C (fun n => match n with | 0 => q1 | _ => 0) hw dX0_init_12
def Fin1 (X : XT) (a : Nat) (u : Nat → Nat) : va_W := [(a, .inr (1, [.long 0]))]
abbrev rmX1_init : Room := { frames := 1, cells := 0, slots := 0, locals := 12 }
theorem hd_X1_init : yX1_init.cls ≠ "java/lang/invoke/MethodHandle" ∧ yX1_init.cls ≠ "java/lang/invoke/VarHandle" ∧ (parseMethodDescriptor yX1_init.desc).map (fun d => d.parameters.length) = some 0 := by decide +kernel
set_option maxRecDepth 100000 in
set_option maxHeartbeats 4000000 in
theorem k_X1 (l : Launch) (X : XT) : NC l X yX1_init cX1_init 1 rmX1_init 1 [.long 0] Fin1 0 0 := by
  refine met_N (own := RX1) (by decide) rfl rfl (by decide) (fun p e s m args below meth c a C ls hw hl => ?_)
  refine lv_aload_n C.1.1 C.1.2.1 dX1_init_0 rfl (lv_at hl 0 rfl) ?_
  refine n_obj C tw2_25 tw1_29 tw1_30 hl.1 dX1_init_1 (Nat.le_of_ble_eq_true rfl) (Nat.le_of_ble_eq_true rfl) ?_
  exact n_ret (Fin := Fin1) C (fun n => match n with | _ => 0) hw dX1_init_4
def Fin3 (X : XT) (a : Nat) (u : Nat → Nat) : va_W := [(a, .inr (3, [.int 0, .int 0, .ref (u 0), .ref (u 1), .ref (u 2), .ref (u 3)])), (u 0, .inl (X.2.1 0, 8, .inl (fun _ => 0))), (u 1, .inl (X.2.1 0, 8, .inl (fun _ => 0))), (u 2, .inl (X.2.1 0, 8, .inl (fun _ => 0))), (u 3, .inl (X.2.1 1, 48, .inl (fun _ => 0)))]
abbrev rmX3_init : Room := { frames := 1, cells := 4, slots := 72, locals := 12 }
theorem hd_X3_init : yX3_init.cls ≠ "java/lang/invoke/MethodHandle" ∧ yX3_init.cls ≠ "java/lang/invoke/VarHandle" ∧ (parseMethodDescriptor yX3_init.desc).map (fun d => d.parameters.length) = some 0 := by decide +kernel
set_option maxRecDepth 100000 in
set_option maxHeartbeats 4000000 in
theorem k_X3 (l : Launch) (X : XT) : NC l X yX3_init cX3_init 1 rmX3_init 3 [.int 0, .int 0, .null, .null, .null, .null] Fin3 4 72 := by
  refine met_N (own := RX3) (by decide) rfl rfl (by decide) (fun p e s m args below meth c a C ls hw hl => ?_)
  refine lv_aload_n C.1.1 C.1.2.1 dX3_init_0 rfl (lv_at hl 0 rfl) ?_
  refine n_obj C tw1_165 tw1_29 tw1_30 hl.1 dX3_init_1 (Nat.le_of_ble_eq_true rfl) (Nat.le_of_ble_eq_true rfl) ?_
  refine lv_aload_n C.1.1 C.1.2.1 dX3_init_4 rfl (lv_at hl 0 rfl) ?_
  refine lv_bipush (v := 8) C.1.1 C.1.2.1 dX3_init_5 (by decide) ?_
  refine n_newI C hw tw1_104 (N := 8) (by decide) (by decide) (Nat.le_of_ble_eq_true rfl) (Nat.le_of_ble_eq_true rfl) (Nat.le_of_ble_eq_true rfl) dX3_init_7 (fun q1 H hw => ?_)
  refine W.widen (k := 1) (n := 8) (Nat.le_of_ble_eq_true rfl) (Nat.le_of_ble_eq_true rfl) ?_
  refine n_put (k := 2) C hw 0 rfl cO3 (by decide) tw1_172 rfl rfl rfl (Nat.le_of_ble_eq_true rfl) rfl rfl dX3_init_9 (fun H locs hw => ?_)
  have hw : BW X a s.heap.size s.heap [(a, .inr (3, [.int 0, .int 0, .ref q1, .null, .null, .null])), (q1, .inl (X.2.1 0, 8, .inl (fun _ => 0)))] H locs := hw
  refine lv_aload_n C.1.1 C.1.2.1 dX3_init_12 rfl (lv_at hl 0 rfl) ?_
  refine lv_bipush (v := 8) C.1.1 C.1.2.1 dX3_init_13 (by decide) ?_
  refine n_newI C hw tw1_104 (N := 8) (by decide) (by decide) (Nat.le_of_ble_eq_true rfl) (Nat.le_of_ble_eq_true rfl) (Nat.le_of_ble_eq_true rfl) dX3_init_15 (fun q2 H hw => ?_)
  refine W.widen (k := 2) (n := 16) (Nat.le_of_ble_eq_true rfl) (Nat.le_of_ble_eq_true rfl) ?_
  refine n_put (k := 3) C hw 0 rfl cO3 (by decide) tw1_174 rfl rfl rfl (Nat.le_of_ble_eq_true rfl) rfl rfl dX3_init_17 (fun H locs hw => ?_)
  have hw : BW X a s.heap.size s.heap [(a, .inr (3, [.int 0, .int 0, .ref q1, .ref q2, .null, .null])), (q1, .inl (X.2.1 0, 8, .inl (fun _ => 0))), (q2, .inl (X.2.1 0, 8, .inl (fun _ => 0)))] H locs := hw
  refine lv_aload_n C.1.1 C.1.2.1 dX3_init_20 rfl (lv_at hl 0 rfl) ?_
  refine lv_bipush (v := 8) C.1.1 C.1.2.1 dX3_init_21 (by decide) ?_
  refine n_newI C hw tw1_104 (N := 8) (by decide) (by decide) (Nat.le_of_ble_eq_true rfl) (Nat.le_of_ble_eq_true rfl) (Nat.le_of_ble_eq_true rfl) dX3_init_23 (fun q3 H hw => ?_)
  refine W.widen (k := 3) (n := 24) (Nat.le_of_ble_eq_true rfl) (Nat.le_of_ble_eq_true rfl) ?_
  refine n_put (k := 4) C hw 0 rfl cO3 (by decide) tw1_177 rfl rfl rfl (Nat.le_of_ble_eq_true rfl) rfl rfl dX3_init_25 (fun H locs hw => ?_)
  have hw : BW X a s.heap.size s.heap [(a, .inr (3, [.int 0, .int 0, .ref q1, .ref q2, .ref q3, .null])), (q1, .inl (X.2.1 0, 8, .inl (fun _ => 0))), (q2, .inl (X.2.1 0, 8, .inl (fun _ => 0))), (q3, .inl (X.2.1 0, 8, .inl (fun _ => 0)))] H locs := hw
  refine lv_aload_n C.1.1 C.1.2.1 dX3_init_28 rfl (lv_at hl 0 rfl) ?_
  refine lv_bipush (v := 48) C.1.1 C.1.2.1 dX3_init_29 (by decide) ?_
  refine n_newC C hw tw1_52 (N := 48) (by decide) (by decide) (Nat.le_of_ble_eq_true rfl) (Nat.le_of_ble_eq_true rfl) (Nat.le_of_ble_eq_true rfl) dX3_init_31 (fun q4 H hw => ?_)
  refine W.widen (k := 4) (n := 72) (Nat.le_of_ble_eq_true rfl) (Nat.le_of_ble_eq_true rfl) ?_
  refine n_put (k := 5) C hw 0 rfl cO3 (by decide) tw1_179 rfl rfl rfl (Nat.le_of_ble_eq_true rfl) rfl rfl dX3_init_33 (fun H locs hw => ?_)
  have hw : BW X a s.heap.size s.heap [(a, .inr (3, [.int 0, .int 0, .ref q1, .ref q2, .ref q3, .ref q4])), (q1, .inl (X.2.1 0, 8, .inl (fun _ => 0))), (q2, .inl (X.2.1 0, 8, .inl (fun _ => 0))), (q3, .inl (X.2.1 0, 8, .inl (fun _ => 0))), (q4, .inl (X.2.1 1, 48, .inl (fun _ => 0)))] H locs := hw
  exact n_ret (Fin := Fin3) C (fun n => match n with | 0 => q1 | 1 => q2 | 2 => q3 | 3 => q4 | _ => 0) hw dX3_init_36
def Fin4 (X : XT) (a : Nat) (u : Nat → Nat) : va_W := [(a, .inr (4, [.int 0, .int 0, .ref (u 0), .ref (u 1), .ref (u 2)])), (u 0, .inl (X.2.1 0, 100, .inl (fun _ => 0))), (u 1, .inl (X.2.1 0, 100, .inl (fun _ => 0))), (u 2, .inl (X.2.1 0, 100, .inl (fun _ => 0)))]
abbrev rmX4_init : Room := { frames := 1, cells := 3, slots := 300, locals := 12 }
theorem hd_X4_init : yX4_init.cls ≠ "java/lang/invoke/MethodHandle" ∧ yX4_init.cls ≠ "java/lang/invoke/VarHandle" ∧ (parseMethodDescriptor yX4_init.desc).map (fun d => d.parameters.length) = some 0 := by decide +kernel
set_option maxRecDepth 100000 in
set_option maxHeartbeats 4000000 in
theorem k_X4 (l : Launch) (X : XT) : NC l X yX4_init cX4_init 1 rmX4_init 4 [.int 0, .int 0, .null, .null, .null] Fin4 3 300 := by
  refine met_N (own := RX4) (by decide) rfl rfl (by decide) (fun p e s m args below meth c a C ls hw hl => ?_)
  refine lv_aload_n C.1.1 C.1.2.1 dX4_init_0 rfl (lv_at hl 0 rfl) ?_
  refine n_obj C tw1_218 tw1_29 tw1_30 hl.1 dX4_init_1 (Nat.le_of_ble_eq_true rfl) (Nat.le_of_ble_eq_true rfl) ?_
  refine lv_aload_n C.1.1 C.1.2.1 dX4_init_4 rfl (lv_at hl 0 rfl) ?_
  refine lv_bipush (v := 100) C.1.1 C.1.2.1 dX4_init_5 (by decide) ?_
  refine n_newI C hw tw1_104 (N := 100) (by decide) (by decide) (Nat.le_of_ble_eq_true rfl) (Nat.le_of_ble_eq_true rfl) (Nat.le_of_ble_eq_true rfl) dX4_init_7 (fun q1 H hw => ?_)
  refine W.widen (k := 1) (n := 100) (Nat.le_of_ble_eq_true rfl) (Nat.le_of_ble_eq_true rfl) ?_
  refine n_put (k := 2) C hw 0 rfl cO4 (by decide) tw1_221 rfl rfl rfl (Nat.le_of_ble_eq_true rfl) rfl rfl dX4_init_9 (fun H locs hw => ?_)
  have hw : BW X a s.heap.size s.heap [(a, .inr (4, [.int 0, .int 0, .ref q1, .null, .null])), (q1, .inl (X.2.1 0, 100, .inl (fun _ => 0)))] H locs := hw
  refine lv_aload_n C.1.1 C.1.2.1 dX4_init_12 rfl (lv_at hl 0 rfl) ?_
  refine lv_bipush (v := 100) C.1.1 C.1.2.1 dX4_init_13 (by decide) ?_
  refine n_newI C hw tw1_104 (N := 100) (by decide) (by decide) (Nat.le_of_ble_eq_true rfl) (Nat.le_of_ble_eq_true rfl) (Nat.le_of_ble_eq_true rfl) dX4_init_15 (fun q2 H hw => ?_)
  refine W.widen (k := 2) (n := 200) (Nat.le_of_ble_eq_true rfl) (Nat.le_of_ble_eq_true rfl) ?_
  refine n_put (k := 3) C hw 0 rfl cO4 (by decide) tw1_222 rfl rfl rfl (Nat.le_of_ble_eq_true rfl) rfl rfl dX4_init_17 (fun H locs hw => ?_)
  have hw : BW X a s.heap.size s.heap [(a, .inr (4, [.int 0, .int 0, .ref q1, .ref q2, .null])), (q1, .inl (X.2.1 0, 100, .inl (fun _ => 0))), (q2, .inl (X.2.1 0, 100, .inl (fun _ => 0)))] H locs := hw
  refine lv_aload_n C.1.1 C.1.2.1 dX4_init_20 rfl (lv_at hl 0 rfl) ?_
  refine lv_bipush (v := 100) C.1.1 C.1.2.1 dX4_init_21 (by decide) ?_
  refine n_newI C hw tw1_104 (N := 100) (by decide) (by decide) (Nat.le_of_ble_eq_true rfl) (Nat.le_of_ble_eq_true rfl) (Nat.le_of_ble_eq_true rfl) dX4_init_23 (fun q3 H hw => ?_)
  refine W.widen (k := 3) (n := 300) (Nat.le_of_ble_eq_true rfl) (Nat.le_of_ble_eq_true rfl) ?_
  refine n_put (k := 4) C hw 0 rfl cO4 (by decide) tw1_223 rfl rfl rfl (Nat.le_of_ble_eq_true rfl) rfl rfl dX4_init_25 (fun H locs hw => ?_)
  have hw : BW X a s.heap.size s.heap [(a, .inr (4, [.int 0, .int 0, .ref q1, .ref q2, .ref q3])), (q1, .inl (X.2.1 0, 100, .inl (fun _ => 0))), (q2, .inl (X.2.1 0, 100, .inl (fun _ => 0))), (q3, .inl (X.2.1 0, 100, .inl (fun _ => 0)))] H locs := hw
  exact n_ret (Fin := Fin4) C (fun n => match n with | 0 => q1 | 1 => q2 | 2 => q3 | _ => 0) hw dX4_init_28
def Fin5 (X : XT) (a : Nat) (u : Nat → Nat) : va_W := [(a, .inr (5, [.int 0, .int 0, .ref (u 0), .ref (u 1), .ref (u 2), .ref (u 3), .ref (u 4), .ref (u 5), .ref (u 6), .ref (u 7), .ref (u 8), .ref (u 9), .ref (u 10), .ref (u 11), .ref (u 12)])), (u 0, .inl (X.2.1 0, 48, .inl (fun _ => 0))), (u 1, .inl (X.2.1 0, 48, .inl (fun _ => 0))), (u 2, .inl (X.2.1 0, 48, .inl (fun _ => 0))), (u 3, .inl (X.2.1 0, 48, .inl (fun _ => 0))), (u 4, .inl (X.2.1 0, 48, .inl (fun _ => 0))), (u 5, .inl (X.2.1 0, 48, .inl (fun _ => 0))), (u 6, .inl (X.2.1 0, 48, .inl (fun _ => 0))), (u 7, .inl (X.2.1 0, 48, .inl (fun _ => 0))), (u 8, .inl (X.2.1 0, 48, .inl (fun _ => 0))), (u 9, .inl (X.2.1 0, 48, .inl (fun _ => 0))), (u 10, .inl (X.2.1 0, 48, .inl (fun _ => 0))), (u 11, .inl (X.2.1 0, 48, .inl (fun _ => 0))), (u 12, .inl (X.2.1 0, 48, .inl (fun _ => 0)))]
abbrev rmX5_init : Room := { frames := 1, cells := 13, slots := 624, locals := 12 }
theorem hd_X5_init : yX5_init.cls ≠ "java/lang/invoke/MethodHandle" ∧ yX5_init.cls ≠ "java/lang/invoke/VarHandle" ∧ (parseMethodDescriptor yX5_init.desc).map (fun d => d.parameters.length) = some 0 := by decide +kernel
set_option maxRecDepth 100000 in
set_option maxHeartbeats 4000000 in
theorem k_X5 (l : Launch) (X : XT) : NC l X yX5_init cX5_init 1 rmX5_init 5 [.int 0, .int 0, .null, .null, .null, .null, .null, .null, .null, .null, .null, .null, .null, .null, .null] Fin5 13 624 := by
  refine met_N (own := RX5) (by decide) rfl rfl (by decide) (fun p e s m args below meth c a C ls hw hl => ?_)
  refine lv_aload_n C.1.1 C.1.2.1 dX5_init_0 rfl (lv_at hl 0 rfl) ?_
  refine n_obj C tw1_110 tw1_29 tw1_30 hl.1 dX5_init_1 (Nat.le_of_ble_eq_true rfl) (Nat.le_of_ble_eq_true rfl) ?_
  refine lv_aload_n C.1.1 C.1.2.1 dX5_init_4 rfl (lv_at hl 0 rfl) ?_
  refine lv_bipush (v := 48) C.1.1 C.1.2.1 dX5_init_5 (by decide) ?_
  refine n_newI C hw tw1_104 (N := 48) (by decide) (by decide) (Nat.le_of_ble_eq_true rfl) (Nat.le_of_ble_eq_true rfl) (Nat.le_of_ble_eq_true rfl) dX5_init_7 (fun q1 H hw => ?_)
  refine W.widen (k := 1) (n := 48) (Nat.le_of_ble_eq_true rfl) (Nat.le_of_ble_eq_true rfl) ?_
  refine n_put (k := 2) C hw 0 rfl cO5 (by decide) tw1_116 rfl rfl rfl (Nat.le_of_ble_eq_true rfl) rfl rfl dX5_init_9 (fun H locs hw => ?_)
  have hw : BW X a s.heap.size s.heap [(a, .inr (5, [.int 0, .int 0, .ref q1, .null, .null, .null, .null, .null, .null, .null, .null, .null, .null, .null, .null])), (q1, .inl (X.2.1 0, 48, .inl (fun _ => 0)))] H locs := hw
  refine lv_aload_n C.1.1 C.1.2.1 dX5_init_12 rfl (lv_at hl 0 rfl) ?_
  refine lv_bipush (v := 48) C.1.1 C.1.2.1 dX5_init_13 (by decide) ?_
  refine n_newI C hw tw1_104 (N := 48) (by decide) (by decide) (Nat.le_of_ble_eq_true rfl) (Nat.le_of_ble_eq_true rfl) (Nat.le_of_ble_eq_true rfl) dX5_init_15 (fun q2 H hw => ?_)
  refine W.widen (k := 2) (n := 96) (Nat.le_of_ble_eq_true rfl) (Nat.le_of_ble_eq_true rfl) ?_
  refine n_put (k := 3) C hw 0 rfl cO5 (by decide) tw1_117 rfl rfl rfl (Nat.le_of_ble_eq_true rfl) rfl rfl dX5_init_17 (fun H locs hw => ?_)
  have hw : BW X a s.heap.size s.heap [(a, .inr (5, [.int 0, .int 0, .ref q1, .ref q2, .null, .null, .null, .null, .null, .null, .null, .null, .null, .null, .null])), (q1, .inl (X.2.1 0, 48, .inl (fun _ => 0))), (q2, .inl (X.2.1 0, 48, .inl (fun _ => 0)))] H locs := hw
  refine lv_aload_n C.1.1 C.1.2.1 dX5_init_20 rfl (lv_at hl 0 rfl) ?_
  refine lv_bipush (v := 48) C.1.1 C.1.2.1 dX5_init_21 (by decide) ?_
  refine n_newI C hw tw1_104 (N := 48) (by decide) (by decide) (Nat.le_of_ble_eq_true rfl) (Nat.le_of_ble_eq_true rfl) (Nat.le_of_ble_eq_true rfl) dX5_init_23 (fun q3 H hw => ?_)
  refine W.widen (k := 3) (n := 144) (Nat.le_of_ble_eq_true rfl) (Nat.le_of_ble_eq_true rfl) ?_
  refine n_put (k := 4) C hw 0 rfl cO5 (by decide) tw1_118 rfl rfl rfl (Nat.le_of_ble_eq_true rfl) rfl rfl dX5_init_25 (fun H locs hw => ?_)
  have hw : BW X a s.heap.size s.heap [(a, .inr (5, [.int 0, .int 0, .ref q1, .ref q2, .ref q3, .null, .null, .null, .null, .null, .null, .null, .null, .null, .null])), (q1, .inl (X.2.1 0, 48, .inl (fun _ => 0))), (q2, .inl (X.2.1 0, 48, .inl (fun _ => 0))), (q3, .inl (X.2.1 0, 48, .inl (fun _ => 0)))] H locs := hw
  refine lv_aload_n C.1.1 C.1.2.1 dX5_init_28 rfl (lv_at hl 0 rfl) ?_
  refine lv_bipush (v := 48) C.1.1 C.1.2.1 dX5_init_29 (by decide) ?_
  refine n_newI C hw tw1_104 (N := 48) (by decide) (by decide) (Nat.le_of_ble_eq_true rfl) (Nat.le_of_ble_eq_true rfl) (Nat.le_of_ble_eq_true rfl) dX5_init_31 (fun q4 H hw => ?_)
  refine W.widen (k := 4) (n := 192) (Nat.le_of_ble_eq_true rfl) (Nat.le_of_ble_eq_true rfl) ?_
  refine n_put (k := 5) C hw 0 rfl cO5 (by decide) tw1_119 rfl rfl rfl (Nat.le_of_ble_eq_true rfl) rfl rfl dX5_init_33 (fun H locs hw => ?_)
  have hw : BW X a s.heap.size s.heap [(a, .inr (5, [.int 0, .int 0, .ref q1, .ref q2, .ref q3, .ref q4, .null, .null, .null, .null, .null, .null, .null, .null, .null])), (q1, .inl (X.2.1 0, 48, .inl (fun _ => 0))), (q2, .inl (X.2.1 0, 48, .inl (fun _ => 0))), (q3, .inl (X.2.1 0, 48, .inl (fun _ => 0))), (q4, .inl (X.2.1 0, 48, .inl (fun _ => 0)))] H locs := hw
  refine lv_aload_n C.1.1 C.1.2.1 dX5_init_36 rfl (lv_at hl 0 rfl) ?_
  refine lv_bipush (v := 48) C.1.1 C.1.2.1 dX5_init_37 (by decide) ?_
  refine n_newI C hw tw1_104 (N := 48) (by decide) (by decide) (Nat.le_of_ble_eq_true rfl) (Nat.le_of_ble_eq_true rfl) (Nat.le_of_ble_eq_true rfl) dX5_init_39 (fun q5 H hw => ?_)
  refine W.widen (k := 5) (n := 240) (Nat.le_of_ble_eq_true rfl) (Nat.le_of_ble_eq_true rfl) ?_
  refine n_put (k := 6) C hw 0 rfl cO5 (by decide) tw1_120 rfl rfl rfl (Nat.le_of_ble_eq_true rfl) rfl rfl dX5_init_41 (fun H locs hw => ?_)
  have hw : BW X a s.heap.size s.heap [(a, .inr (5, [.int 0, .int 0, .ref q1, .ref q2, .ref q3, .ref q4, .ref q5, .null, .null, .null, .null, .null, .null, .null, .null])), (q1, .inl (X.2.1 0, 48, .inl (fun _ => 0))), (q2, .inl (X.2.1 0, 48, .inl (fun _ => 0))), (q3, .inl (X.2.1 0, 48, .inl (fun _ => 0))), (q4, .inl (X.2.1 0, 48, .inl (fun _ => 0))), (q5, .inl (X.2.1 0, 48, .inl (fun _ => 0)))] H locs := hw
  refine lv_aload_n C.1.1 C.1.2.1 dX5_init_44 rfl (lv_at hl 0 rfl) ?_
  refine lv_bipush (v := 48) C.1.1 C.1.2.1 dX5_init_45 (by decide) ?_
  refine n_newI C hw tw1_104 (N := 48) (by decide) (by decide) (Nat.le_of_ble_eq_true rfl) (Nat.le_of_ble_eq_true rfl) (Nat.le_of_ble_eq_true rfl) dX5_init_47 (fun q6 H hw => ?_)
  refine W.widen (k := 6) (n := 288) (Nat.le_of_ble_eq_true rfl) (Nat.le_of_ble_eq_true rfl) ?_
  refine n_put (k := 7) C hw 0 rfl cO5 (by decide) tw1_121 rfl rfl rfl (Nat.le_of_ble_eq_true rfl) rfl rfl dX5_init_49 (fun H locs hw => ?_)
  have hw : BW X a s.heap.size s.heap [(a, .inr (5, [.int 0, .int 0, .ref q1, .ref q2, .ref q3, .ref q4, .ref q5, .ref q6, .null, .null, .null, .null, .null, .null, .null])), (q1, .inl (X.2.1 0, 48, .inl (fun _ => 0))), (q2, .inl (X.2.1 0, 48, .inl (fun _ => 0))), (q3, .inl (X.2.1 0, 48, .inl (fun _ => 0))), (q4, .inl (X.2.1 0, 48, .inl (fun _ => 0))), (q5, .inl (X.2.1 0, 48, .inl (fun _ => 0))), (q6, .inl (X.2.1 0, 48, .inl (fun _ => 0)))] H locs := hw
  refine lv_aload_n C.1.1 C.1.2.1 dX5_init_52 rfl (lv_at hl 0 rfl) ?_
  refine lv_bipush (v := 48) C.1.1 C.1.2.1 dX5_init_53 (by decide) ?_
  refine n_newI C hw tw1_104 (N := 48) (by decide) (by decide) (Nat.le_of_ble_eq_true rfl) (Nat.le_of_ble_eq_true rfl) (Nat.le_of_ble_eq_true rfl) dX5_init_55 (fun q7 H hw => ?_)
  refine W.widen (k := 7) (n := 336) (Nat.le_of_ble_eq_true rfl) (Nat.le_of_ble_eq_true rfl) ?_
  refine n_put (k := 8) C hw 0 rfl cO5 (by decide) tw1_122 rfl rfl rfl (Nat.le_of_ble_eq_true rfl) rfl rfl dX5_init_57 (fun H locs hw => ?_)
  have hw : BW X a s.heap.size s.heap [(a, .inr (5, [.int 0, .int 0, .ref q1, .ref q2, .ref q3, .ref q4, .ref q5, .ref q6, .ref q7, .null, .null, .null, .null, .null, .null])), (q1, .inl (X.2.1 0, 48, .inl (fun _ => 0))), (q2, .inl (X.2.1 0, 48, .inl (fun _ => 0))), (q3, .inl (X.2.1 0, 48, .inl (fun _ => 0))), (q4, .inl (X.2.1 0, 48, .inl (fun _ => 0))), (q5, .inl (X.2.1 0, 48, .inl (fun _ => 0))), (q6, .inl (X.2.1 0, 48, .inl (fun _ => 0))), (q7, .inl (X.2.1 0, 48, .inl (fun _ => 0)))] H locs := hw
  refine lv_aload_n C.1.1 C.1.2.1 dX5_init_60 rfl (lv_at hl 0 rfl) ?_
  refine lv_bipush (v := 48) C.1.1 C.1.2.1 dX5_init_61 (by decide) ?_
  refine n_newI C hw tw1_104 (N := 48) (by decide) (by decide) (Nat.le_of_ble_eq_true rfl) (Nat.le_of_ble_eq_true rfl) (Nat.le_of_ble_eq_true rfl) dX5_init_63 (fun q8 H hw => ?_)
  refine W.widen (k := 8) (n := 384) (Nat.le_of_ble_eq_true rfl) (Nat.le_of_ble_eq_true rfl) ?_
  refine n_put (k := 9) C hw 0 rfl cO5 (by decide) tw1_123 rfl rfl rfl (Nat.le_of_ble_eq_true rfl) rfl rfl dX5_init_65 (fun H locs hw => ?_)
  have hw : BW X a s.heap.size s.heap [(a, .inr (5, [.int 0, .int 0, .ref q1, .ref q2, .ref q3, .ref q4, .ref q5, .ref q6, .ref q7, .ref q8, .null, .null, .null, .null, .null])), (q1, .inl (X.2.1 0, 48, .inl (fun _ => 0))), (q2, .inl (X.2.1 0, 48, .inl (fun _ => 0))), (q3, .inl (X.2.1 0, 48, .inl (fun _ => 0))), (q4, .inl (X.2.1 0, 48, .inl (fun _ => 0))), (q5, .inl (X.2.1 0, 48, .inl (fun _ => 0))), (q6, .inl (X.2.1 0, 48, .inl (fun _ => 0))), (q7, .inl (X.2.1 0, 48, .inl (fun _ => 0))), (q8, .inl (X.2.1 0, 48, .inl (fun _ => 0)))] H locs := hw
  refine lv_aload_n C.1.1 C.1.2.1 dX5_init_68 rfl (lv_at hl 0 rfl) ?_
  refine lv_bipush (v := 48) C.1.1 C.1.2.1 dX5_init_69 (by decide) ?_
  refine n_newI C hw tw1_104 (N := 48) (by decide) (by decide) (Nat.le_of_ble_eq_true rfl) (Nat.le_of_ble_eq_true rfl) (Nat.le_of_ble_eq_true rfl) dX5_init_71 (fun q9 H hw => ?_)
  refine W.widen (k := 9) (n := 432) (Nat.le_of_ble_eq_true rfl) (Nat.le_of_ble_eq_true rfl) ?_
  refine n_put (k := 10) C hw 0 rfl cO5 (by decide) tw1_124 rfl rfl rfl (Nat.le_of_ble_eq_true rfl) rfl rfl dX5_init_73 (fun H locs hw => ?_)
  have hw : BW X a s.heap.size s.heap [(a, .inr (5, [.int 0, .int 0, .ref q1, .ref q2, .ref q3, .ref q4, .ref q5, .ref q6, .ref q7, .ref q8, .ref q9, .null, .null, .null, .null])), (q1, .inl (X.2.1 0, 48, .inl (fun _ => 0))), (q2, .inl (X.2.1 0, 48, .inl (fun _ => 0))), (q3, .inl (X.2.1 0, 48, .inl (fun _ => 0))), (q4, .inl (X.2.1 0, 48, .inl (fun _ => 0))), (q5, .inl (X.2.1 0, 48, .inl (fun _ => 0))), (q6, .inl (X.2.1 0, 48, .inl (fun _ => 0))), (q7, .inl (X.2.1 0, 48, .inl (fun _ => 0))), (q8, .inl (X.2.1 0, 48, .inl (fun _ => 0))), (q9, .inl (X.2.1 0, 48, .inl (fun _ => 0)))] H locs := hw
  refine lv_aload_n C.1.1 C.1.2.1 dX5_init_76 rfl (lv_at hl 0 rfl) ?_
  refine lv_bipush (v := 48) C.1.1 C.1.2.1 dX5_init_77 (by decide) ?_
  refine n_newI C hw tw1_104 (N := 48) (by decide) (by decide) (Nat.le_of_ble_eq_true rfl) (Nat.le_of_ble_eq_true rfl) (Nat.le_of_ble_eq_true rfl) dX5_init_79 (fun q10 H hw => ?_)
  refine W.widen (k := 10) (n := 480) (Nat.le_of_ble_eq_true rfl) (Nat.le_of_ble_eq_true rfl) ?_
  refine n_put (k := 11) C hw 0 rfl cO5 (by decide) tw1_125 rfl rfl rfl (Nat.le_of_ble_eq_true rfl) rfl rfl dX5_init_81 (fun H locs hw => ?_)
  have hw : BW X a s.heap.size s.heap [(a, .inr (5, [.int 0, .int 0, .ref q1, .ref q2, .ref q3, .ref q4, .ref q5, .ref q6, .ref q7, .ref q8, .ref q9, .ref q10, .null, .null, .null])), (q1, .inl (X.2.1 0, 48, .inl (fun _ => 0))), (q2, .inl (X.2.1 0, 48, .inl (fun _ => 0))), (q3, .inl (X.2.1 0, 48, .inl (fun _ => 0))), (q4, .inl (X.2.1 0, 48, .inl (fun _ => 0))), (q5, .inl (X.2.1 0, 48, .inl (fun _ => 0))), (q6, .inl (X.2.1 0, 48, .inl (fun _ => 0))), (q7, .inl (X.2.1 0, 48, .inl (fun _ => 0))), (q8, .inl (X.2.1 0, 48, .inl (fun _ => 0))), (q9, .inl (X.2.1 0, 48, .inl (fun _ => 0))), (q10, .inl (X.2.1 0, 48, .inl (fun _ => 0)))] H locs := hw
  refine lv_aload_n C.1.1 C.1.2.1 dX5_init_84 rfl (lv_at hl 0 rfl) ?_
  refine lv_bipush (v := 48) C.1.1 C.1.2.1 dX5_init_85 (by decide) ?_
  refine n_newI C hw tw1_104 (N := 48) (by decide) (by decide) (Nat.le_of_ble_eq_true rfl) (Nat.le_of_ble_eq_true rfl) (Nat.le_of_ble_eq_true rfl) dX5_init_87 (fun q11 H hw => ?_)
  refine W.widen (k := 11) (n := 528) (Nat.le_of_ble_eq_true rfl) (Nat.le_of_ble_eq_true rfl) ?_
  refine n_put (k := 12) C hw 0 rfl cO5 (by decide) tw1_126 rfl rfl rfl (Nat.le_of_ble_eq_true rfl) rfl rfl dX5_init_89 (fun H locs hw => ?_)
  have hw : BW X a s.heap.size s.heap [(a, .inr (5, [.int 0, .int 0, .ref q1, .ref q2, .ref q3, .ref q4, .ref q5, .ref q6, .ref q7, .ref q8, .ref q9, .ref q10, .ref q11, .null, .null])), (q1, .inl (X.2.1 0, 48, .inl (fun _ => 0))), (q2, .inl (X.2.1 0, 48, .inl (fun _ => 0))), (q3, .inl (X.2.1 0, 48, .inl (fun _ => 0))), (q4, .inl (X.2.1 0, 48, .inl (fun _ => 0))), (q5, .inl (X.2.1 0, 48, .inl (fun _ => 0))), (q6, .inl (X.2.1 0, 48, .inl (fun _ => 0))), (q7, .inl (X.2.1 0, 48, .inl (fun _ => 0))), (q8, .inl (X.2.1 0, 48, .inl (fun _ => 0))), (q9, .inl (X.2.1 0, 48, .inl (fun _ => 0))), (q10, .inl (X.2.1 0, 48, .inl (fun _ => 0))), (q11, .inl (X.2.1 0, 48, .inl (fun _ => 0)))] H locs := hw
  refine lv_aload_n C.1.1 C.1.2.1 dX5_init_92 rfl (lv_at hl 0 rfl) ?_
  refine lv_bipush (v := 48) C.1.1 C.1.2.1 dX5_init_93 (by decide) ?_
  refine n_newI C hw tw1_104 (N := 48) (by decide) (by decide) (Nat.le_of_ble_eq_true rfl) (Nat.le_of_ble_eq_true rfl) (Nat.le_of_ble_eq_true rfl) dX5_init_95 (fun q12 H hw => ?_)
  refine W.widen (k := 12) (n := 576) (Nat.le_of_ble_eq_true rfl) (Nat.le_of_ble_eq_true rfl) ?_
  refine n_put (k := 13) C hw 0 rfl cO5 (by decide) tw1_127 rfl rfl rfl (Nat.le_of_ble_eq_true rfl) rfl rfl dX5_init_97 (fun H locs hw => ?_)
  have hw : BW X a s.heap.size s.heap [(a, .inr (5, [.int 0, .int 0, .ref q1, .ref q2, .ref q3, .ref q4, .ref q5, .ref q6, .ref q7, .ref q8, .ref q9, .ref q10, .ref q11, .ref q12, .null])), (q1, .inl (X.2.1 0, 48, .inl (fun _ => 0))), (q2, .inl (X.2.1 0, 48, .inl (fun _ => 0))), (q3, .inl (X.2.1 0, 48, .inl (fun _ => 0))), (q4, .inl (X.2.1 0, 48, .inl (fun _ => 0))), (q5, .inl (X.2.1 0, 48, .inl (fun _ => 0))), (q6, .inl (X.2.1 0, 48, .inl (fun _ => 0))), (q7, .inl (X.2.1 0, 48, .inl (fun _ => 0))), (q8, .inl (X.2.1 0, 48, .inl (fun _ => 0))), (q9, .inl (X.2.1 0, 48, .inl (fun _ => 0))), (q10, .inl (X.2.1 0, 48, .inl (fun _ => 0))), (q11, .inl (X.2.1 0, 48, .inl (fun _ => 0))), (q12, .inl (X.2.1 0, 48, .inl (fun _ => 0)))] H locs := hw
  refine lv_aload_n C.1.1 C.1.2.1 dX5_init_100 rfl (lv_at hl 0 rfl) ?_
  refine lv_bipush (v := 48) C.1.1 C.1.2.1 dX5_init_101 (by decide) ?_
  refine n_newI C hw tw1_104 (N := 48) (by decide) (by decide) (Nat.le_of_ble_eq_true rfl) (Nat.le_of_ble_eq_true rfl) (Nat.le_of_ble_eq_true rfl) dX5_init_103 (fun q13 H hw => ?_)
  refine W.widen (k := 13) (n := 624) (Nat.le_of_ble_eq_true rfl) (Nat.le_of_ble_eq_true rfl) ?_
  refine n_put (k := 14) C hw 0 rfl cO5 (by decide) tw1_128 rfl rfl rfl (Nat.le_of_ble_eq_true rfl) rfl rfl dX5_init_105 (fun H locs hw => ?_)
  have hw : BW X a s.heap.size s.heap [(a, .inr (5, [.int 0, .int 0, .ref q1, .ref q2, .ref q3, .ref q4, .ref q5, .ref q6, .ref q7, .ref q8, .ref q9, .ref q10, .ref q11, .ref q12, .ref q13])), (q1, .inl (X.2.1 0, 48, .inl (fun _ => 0))), (q2, .inl (X.2.1 0, 48, .inl (fun _ => 0))), (q3, .inl (X.2.1 0, 48, .inl (fun _ => 0))), (q4, .inl (X.2.1 0, 48, .inl (fun _ => 0))), (q5, .inl (X.2.1 0, 48, .inl (fun _ => 0))), (q6, .inl (X.2.1 0, 48, .inl (fun _ => 0))), (q7, .inl (X.2.1 0, 48, .inl (fun _ => 0))), (q8, .inl (X.2.1 0, 48, .inl (fun _ => 0))), (q9, .inl (X.2.1 0, 48, .inl (fun _ => 0))), (q10, .inl (X.2.1 0, 48, .inl (fun _ => 0))), (q11, .inl (X.2.1 0, 48, .inl (fun _ => 0))), (q12, .inl (X.2.1 0, 48, .inl (fun _ => 0))), (q13, .inl (X.2.1 0, 48, .inl (fun _ => 0)))] H locs := hw
  exact n_ret (Fin := Fin5) C (fun n => match n with | 0 => q1 | 1 => q2 | 2 => q3 | 3 => q4 | 4 => q5 | 5 => q6 | 6 => q7 | 7 => q8 | 8 => q9 | 9 => q10 | 10 => q11 | 11 => q12 | 12 => q13 | _ => 0) hw dX5_init_108
def Fin7 (X : XT) (a : Nat) (u : Nat → Nat) : va_W := [(a, .inr (7, [.int 0, .ref (u 0), .ref (u 1), .ref (u 2)])), (u 0, .inl (X.2.1 0, 12, .inl (fun _ => 0))), (u 1, .inl (X.2.1 0, 12, .inl (fun _ => 0))), (u 2, .inl (X.2.1 0, 12, .inl (fun _ => 0)))]
abbrev rmX7_init : Room := { frames := 1, cells := 3, slots := 36, locals := 12 }
theorem hd_X7_init : yX7_init.cls ≠ "java/lang/invoke/MethodHandle" ∧ yX7_init.cls ≠ "java/lang/invoke/VarHandle" ∧ (parseMethodDescriptor yX7_init.desc).map (fun d => d.parameters.length) = some 0 := by decide +kernel
set_option maxRecDepth 100000 in
set_option maxHeartbeats 4000000 in
theorem k_X7 (l : Launch) (X : XT) : NC l X yX7_init cX7_init 1 rmX7_init 7 [.int 0, .null, .null, .null] Fin7 3 36 := by
  refine met_N (own := RX7) (by decide) rfl rfl (by decide) (fun p e s m args below meth c a C ls hw hl => ?_)
  refine lv_aload_n C.1.1 C.1.2.1 dX7_init_0 rfl (lv_at hl 0 rfl) ?_
  refine n_obj C tw2_1 tw1_29 tw1_30 hl.1 dX7_init_1 (Nat.le_of_ble_eq_true rfl) (Nat.le_of_ble_eq_true rfl) ?_
  refine lv_aload_n C.1.1 C.1.2.1 dX7_init_4 rfl (lv_at hl 0 rfl) ?_
  refine lv_bipush (v := 12) C.1.1 C.1.2.1 dX7_init_5 (by decide) ?_
  refine n_newI C hw tw1_104 (N := 12) (by decide) (by decide) (Nat.le_of_ble_eq_true rfl) (Nat.le_of_ble_eq_true rfl) (Nat.le_of_ble_eq_true rfl) dX7_init_7 (fun q1 H hw => ?_)
  refine W.widen (k := 1) (n := 12) (Nat.le_of_ble_eq_true rfl) (Nat.le_of_ble_eq_true rfl) ?_
  refine n_put (k := 1) C hw 0 rfl cO7 (by decide) tw2_5 rfl rfl rfl (Nat.le_of_ble_eq_true rfl) rfl rfl dX7_init_9 (fun H locs hw => ?_)
  have hw : BW X a s.heap.size s.heap [(a, .inr (7, [.int 0, .ref q1, .null, .null])), (q1, .inl (X.2.1 0, 12, .inl (fun _ => 0)))] H locs := hw
  refine lv_aload_n C.1.1 C.1.2.1 dX7_init_12 rfl (lv_at hl 0 rfl) ?_
  refine lv_bipush (v := 12) C.1.1 C.1.2.1 dX7_init_13 (by decide) ?_
  refine n_newI C hw tw1_104 (N := 12) (by decide) (by decide) (Nat.le_of_ble_eq_true rfl) (Nat.le_of_ble_eq_true rfl) (Nat.le_of_ble_eq_true rfl) dX7_init_15 (fun q2 H hw => ?_)
  refine W.widen (k := 2) (n := 24) (Nat.le_of_ble_eq_true rfl) (Nat.le_of_ble_eq_true rfl) ?_
  refine n_put (k := 2) C hw 0 rfl cO7 (by decide) tw2_7 rfl rfl rfl (Nat.le_of_ble_eq_true rfl) rfl rfl dX7_init_17 (fun H locs hw => ?_)
  have hw : BW X a s.heap.size s.heap [(a, .inr (7, [.int 0, .ref q1, .ref q2, .null])), (q1, .inl (X.2.1 0, 12, .inl (fun _ => 0))), (q2, .inl (X.2.1 0, 12, .inl (fun _ => 0)))] H locs := hw
  refine lv_aload_n C.1.1 C.1.2.1 dX7_init_20 rfl (lv_at hl 0 rfl) ?_
  refine lv_bipush (v := 12) C.1.1 C.1.2.1 dX7_init_21 (by decide) ?_
  refine n_newI C hw tw1_104 (N := 12) (by decide) (by decide) (Nat.le_of_ble_eq_true rfl) (Nat.le_of_ble_eq_true rfl) (Nat.le_of_ble_eq_true rfl) dX7_init_23 (fun q3 H hw => ?_)
  refine W.widen (k := 3) (n := 36) (Nat.le_of_ble_eq_true rfl) (Nat.le_of_ble_eq_true rfl) ?_
  refine n_put (k := 3) C hw 0 rfl cO7 (by decide) tw2_9 rfl rfl rfl (Nat.le_of_ble_eq_true rfl) rfl rfl dX7_init_25 (fun H locs hw => ?_)
  have hw : BW X a s.heap.size s.heap [(a, .inr (7, [.int 0, .ref q1, .ref q2, .ref q3])), (q1, .inl (X.2.1 0, 12, .inl (fun _ => 0))), (q2, .inl (X.2.1 0, 12, .inl (fun _ => 0))), (q3, .inl (X.2.1 0, 12, .inl (fun _ => 0)))] H locs := hw
  exact n_ret (Fin := Fin7) C (fun n => match n with | 0 => q1 | 1 => q2 | 2 => q3 | _ => 0) hw dX7_init_28
def Fin8 (X : XT) (a : Nat) (u : Nat → Nat) : va_W := [(a, .inr (8, [.ref (u 0), .int 0])), (u 0, .inl (X.2.1 0, 13, .inl (fun _ => 0)))]
abbrev rmX8_init : Room := { frames := 1, cells := 1, slots := 13, locals := 12 }
theorem hd_X8_init : yX8_init.cls ≠ "java/lang/invoke/MethodHandle" ∧ yX8_init.cls ≠ "java/lang/invoke/VarHandle" ∧ (parseMethodDescriptor yX8_init.desc).map (fun d => d.parameters.length) = some 0 := by decide +kernel
set_option maxRecDepth 100000 in
set_option maxHeartbeats 4000000 in
theorem k_X8 (l : Launch) (X : XT) : NC l X yX8_init cX8_init 1 rmX8_init 8 [.null, .int 0] Fin8 1 13 := by
  refine met_N (own := RX8) (by decide) rfl rfl (by decide) (fun p e s m args below meth c a C ls hw hl => ?_)
  refine lv_aload_n C.1.1 C.1.2.1 dX8_init_0 rfl (lv_at hl 0 rfl) ?_
  refine n_obj C tw2_36 tw1_29 tw1_30 hl.1 dX8_init_1 (Nat.le_of_ble_eq_true rfl) (Nat.le_of_ble_eq_true rfl) ?_
  refine lv_aload_n C.1.1 C.1.2.1 dX8_init_4 rfl (lv_at hl 0 rfl) ?_
  refine lv_bipush (v := 13) C.1.1 C.1.2.1 dX8_init_5 (by decide) ?_
  refine n_newI C hw tw1_104 (N := 13) (by decide) (by decide) (Nat.le_of_ble_eq_true rfl) (Nat.le_of_ble_eq_true rfl) (Nat.le_of_ble_eq_true rfl) dX8_init_7 (fun q1 H hw => ?_)
  refine W.widen (k := 1) (n := 13) (Nat.le_of_ble_eq_true rfl) (Nat.le_of_ble_eq_true rfl) ?_
  refine n_put (k := 0) C hw 0 rfl cO8 (by decide) tw2_37 rfl rfl rfl (Nat.le_of_ble_eq_true rfl) rfl rfl dX8_init_9 (fun H locs hw => ?_)
  have hw : BW X a s.heap.size s.heap [(a, .inr (8, [.ref q1, .int 0])), (q1, .inl (X.2.1 0, 13, .inl (fun _ => 0)))] H locs := hw
  exact n_ret (Fin := Fin8) C (fun n => match n with | 0 => q1 | _ => 0) hw dX8_init_12
def Fin9 (X : XT) (a : Nat) (u : Nat → Nat) : va_W := [(a, .inr (9, [.ref (u 0), .int 0])), (u 0, .inl (X.2.1 1, 400, .inl (fun _ => 0)))]
abbrev rmX9_init : Room := { frames := 1, cells := 1, slots := 400, locals := 12 }
theorem hd_X9_init : yX9_init.cls ≠ "java/lang/invoke/MethodHandle" ∧ yX9_init.cls ≠ "java/lang/invoke/VarHandle" ∧ (parseMethodDescriptor yX9_init.desc).map (fun d => d.parameters.length) = some 0 := by decide +kernel
set_option maxRecDepth 100000 in
set_option maxHeartbeats 4000000 in
theorem k_X9 (l : Launch) (X : XT) : NC l X yX9_init cX9_init 1 rmX9_init 9 [.null, .int 0] Fin9 1 400 := by
  refine met_N (own := RX9) (by decide) rfl rfl (by decide) (fun p e s m args below meth c a C ls hw hl => ?_)
  refine lv_aload_n C.1.1 C.1.2.1 dX9_init_0 rfl (lv_at hl 0 rfl) ?_
  refine n_obj C tw1_42 tw1_29 tw1_30 hl.1 dX9_init_1 (Nat.le_of_ble_eq_true rfl) (Nat.le_of_ble_eq_true rfl) ?_
  refine lv_aload_n C.1.1 C.1.2.1 dX9_init_4 rfl (lv_at hl 0 rfl) ?_
  refine lv_sipush (v := 400) C.1.1 C.1.2.1 dX9_init_5 (by decide) ?_
  refine n_newC C hw tw1_52 (N := 400) (by decide) (by decide) (Nat.le_of_ble_eq_true rfl) (Nat.le_of_ble_eq_true rfl) (Nat.le_of_ble_eq_true rfl) dX9_init_8 (fun q1 H hw => ?_)
  refine W.widen (k := 1) (n := 400) (Nat.le_of_ble_eq_true rfl) (Nat.le_of_ble_eq_true rfl) ?_
  refine n_put (k := 0) C hw 0 rfl cO9 (by decide) tw1_43 rfl rfl rfl (Nat.le_of_ble_eq_true rfl) rfl rfl dX9_init_10 (fun H locs hw => ?_)
  have hw : BW X a s.heap.size s.heap [(a, .inr (9, [.ref q1, .int 0])), (q1, .inl (X.2.1 1, 400, .inl (fun _ => 0)))] H locs := hw
  exact n_ret (Fin := Fin9) C (fun n => match n with | 0 => q1 | _ => 0) hw dX9_init_13
def Fin11 (X : XT) (a : Nat) (u : Nat → Nat) : va_W := [(a, .inr (11, [.int 0, .ref (u 0), .int 0, .int 0, .int 0, .int 0, .int 0, .int 0, .int 0, .long 0, .int 0, .ref (u 1), .ref (u 2), .ref (u 3), .ref (u 4), .int 0, .int 0, .int 0, .int 0, .ref (u 5), .ref (u 6), .int 0, .ref (u 7), .ref (u 8), .ref (u 9), .ref (u 10), .ref (u 11), .int 0, .int 0, .int 0, .ref (u 12), .ref (u 13), .ref (u 14), .ref (u 15), .ref (u 16), .int 0, .ref (u 17), .ref (u 18), .int 0, .ref (u 19), .ref (u 20), .int 0, .ref (u 21), .ref (u 22), .int 0, .long 0, .ref (u 23), .int 0, .ref (u 24), .ref (u 25), .ref (u 26), .int 0])), (u 0, .inl (X.2.1 0, 400, .inl (fun _ => 0))), (u 1, .inl (X.2.1 0, 48, .inl (fun _ => 0))), (u 2, .inl (X.2.1 0, 8, .inl (fun _ => 0))), (u 3, .inl (X.2.1 0, 8, .inl (fun _ => 0))), (u 4, .inl (X.2.1 2, 8, .inr (.inl (fun _ => 0)))), (u 5, .inl (X.2.1 0, 180, .inl (fun _ => 0))), (u 6, .inl (X.2.1 0, 5, .inl (fun _ => 0))), (u 7, .inl (X.2.1 0, 231, .inl (fun _ => 0))), (u 8, .inl (X.2.1 0, 2, .inl (fun _ => 0))), (u 9, .inl (X.2.1 0, 8, .inl (fun _ => 0))), (u 10, .inl (X.2.1 0, 8, .inl (fun _ => 0))), (u 11, .inl (X.2.1 2, 8, .inr (.inl (fun _ => 0)))), (u 12, .inl (X.2.1 0, 48, .inl (fun _ => 0))), (u 13, .inl (X.2.1 0, 48, .inl (fun _ => 0))), (u 14, .inl (X.2.1 0, 48, .inl (fun _ => 0))), (u 15, .inl (X.2.1 0, 48, .inl (fun _ => 0))), (u 16, .inl (X.2.1 0, 48, .inl (fun _ => 0))), (u 17, .inl (X.2.1 0, 48, .inl (fun _ => 0))), (u 18, .inl (X.2.1 0, 48, .inl (fun _ => 0))), (u 19, .inl (X.2.1 0, 48, .inl (fun _ => 0))), (u 20, .inl (X.2.1 0, 8, .inl (fun _ => 0))), (u 21, .inl (X.2.1 0, 48, .inl (fun _ => 0))), (u 22, .inl (X.2.1 0, 9240, .inl (fun _ => 0))), (u 23, .inl (X.2.1 0, 231, .inl (fun _ => 0))), (u 24, .inl (X.2.1 0, 50, .inl (fun _ => 0))), (u 25, .inl (X.2.1 0, 48, .inl (fun _ => 0))), (u 26, .inl (X.2.1 0, 40, .inl (fun _ => 0)))]
abbrev rmX11_init : Room := { frames := 1, cells := 27, slots := 10963, locals := 12 }
theorem hd_X11_init : yX11_init.cls ≠ "java/lang/invoke/MethodHandle" ∧ yX11_init.cls ≠ "java/lang/invoke/VarHandle" ∧ (parseMethodDescriptor yX11_init.desc).map (fun d => d.parameters.length) = some 0 := by decide +kernel
set_option maxRecDepth 100000 in
set_option maxHeartbeats 4000000 in
theorem k_X11 (l : Launch) (X : XT) : NC l X yX11_init cX11_init 1 rmX11_init 11 [.int 0, .null, .int 0, .int 0, .int 0, .int 0, .int 0, .int 0, .int 0, .long 0, .int 0, .null, .null, .null, .null, .int 0, .int 0, .int 0, .int 0, .null, .null, .int 0, .null, .null, .null, .null, .null, .int 0, .int 0, .int 0, .null, .null, .null, .null, .null, .int 0, .null, .null, .int 0, .null, .null, .int 0, .null, .null, .int 0, .long 0, .null, .int 0, .null, .null, .null, .int 0] Fin11 27 10963 := by
  refine met_N (own := RX11) (by decide) rfl rfl (by decide) (fun p e s m args below meth c a C ls hw hl => ?_)
  refine lv_aload_n C.1.1 C.1.2.1 dX11_init_0 rfl (lv_at hl 0 rfl) ?_
  refine n_obj C tw5_143 tw1_29 tw1_30 hl.1 dX11_init_1 (Nat.le_of_ble_eq_true rfl) (Nat.le_of_ble_eq_true rfl) ?_
  refine lv_aload_n C.1.1 C.1.2.1 dX11_init_4 rfl (lv_at hl 0 rfl) ?_
  refine lv_sipush (v := 400) C.1.1 C.1.2.1 dX11_init_5 (by decide) ?_
  refine n_newI C hw tw1_104 (N := 400) (by decide) (by decide) (Nat.le_of_ble_eq_true rfl) (Nat.le_of_ble_eq_true rfl) (Nat.le_of_ble_eq_true rfl) dX11_init_8 (fun q1 H hw => ?_)
  refine W.widen (k := 1) (n := 400) (Nat.le_of_ble_eq_true rfl) (Nat.le_of_ble_eq_true rfl) ?_
  refine n_put (k := 1) C hw 0 rfl cO11 (by decide) tw5_145 rfl rfl rfl (Nat.le_of_ble_eq_true rfl) rfl rfl dX11_init_10 (fun H locs hw => ?_)
  have hw : BW X a s.heap.size s.heap [(a, .inr (11, [.int 0, .ref q1, .int 0, .int 0, .int 0, .int 0, .int 0, .int 0, .int 0, .long 0, .int 0, .null, .null, .null, .null, .int 0, .int 0, .int 0, .int 0, .null, .null, .int 0, .null, .null, .null, .null, .null, .int 0, .int 0, .int 0, .null, .null, .null, .null, .null, .int 0, .null, .null, .int 0, .null, .null, .int 0, .null, .null, .int 0, .long 0, .null, .int 0, .null, .null, .null, .int 0])), (q1, .inl (X.2.1 0, 400, .inl (fun _ => 0)))] H locs := hw
  refine lv_aload_n C.1.1 C.1.2.1 dX11_init_13 rfl (lv_at hl 0 rfl) ?_
  refine lv_bipush (v := 48) C.1.1 C.1.2.1 dX11_init_14 (by decide) ?_
  refine n_newI C hw tw1_104 (N := 48) (by decide) (by decide) (Nat.le_of_ble_eq_true rfl) (Nat.le_of_ble_eq_true rfl) (Nat.le_of_ble_eq_true rfl) dX11_init_16 (fun q2 H hw => ?_)
  refine W.widen (k := 2) (n := 448) (Nat.le_of_ble_eq_true rfl) (Nat.le_of_ble_eq_true rfl) ?_
  refine n_put (k := 11) C hw 0 rfl cO11 (by decide) tw5_155 rfl rfl rfl (Nat.le_of_ble_eq_true rfl) rfl rfl dX11_init_18 (fun H locs hw => ?_)
  have hw : BW X a s.heap.size s.heap [(a, .inr (11, [.int 0, .ref q1, .int 0, .int 0, .int 0, .int 0, .int 0, .int 0, .int 0, .long 0, .int 0, .ref q2, .null, .null, .null, .int 0, .int 0, .int 0, .int 0, .null, .null, .int 0, .null, .null, .null, .null, .null, .int 0, .int 0, .int 0, .null, .null, .null, .null, .null, .int 0, .null, .null, .int 0, .null, .null, .int 0, .null, .null, .int 0, .long 0, .null, .int 0, .null, .null, .null, .int 0])), (q1, .inl (X.2.1 0, 400, .inl (fun _ => 0))), (q2, .inl (X.2.1 0, 48, .inl (fun _ => 0)))] H locs := hw
  refine lv_aload_n C.1.1 C.1.2.1 dX11_init_21 rfl (lv_at hl 0 rfl) ?_
  refine lv_bipush (v := 8) C.1.1 C.1.2.1 dX11_init_22 (by decide) ?_
  refine n_newI C hw tw1_104 (N := 8) (by decide) (by decide) (Nat.le_of_ble_eq_true rfl) (Nat.le_of_ble_eq_true rfl) (Nat.le_of_ble_eq_true rfl) dX11_init_24 (fun q3 H hw => ?_)
  refine W.widen (k := 3) (n := 456) (Nat.le_of_ble_eq_true rfl) (Nat.le_of_ble_eq_true rfl) ?_
  refine n_put (k := 12) C hw 0 rfl cO11 (by decide) tw5_156 rfl rfl rfl (Nat.le_of_ble_eq_true rfl) rfl rfl dX11_init_26 (fun H locs hw => ?_)
  have hw : BW X a s.heap.size s.heap [(a, .inr (11, [.int 0, .ref q1, .int 0, .int 0, .int 0, .int 0, .int 0, .int 0, .int 0, .long 0, .int 0, .ref q2, .ref q3, .null, .null, .int 0, .int 0, .int 0, .int 0, .null, .null, .int 0, .null, .null, .null, .null, .null, .int 0, .int 0, .int 0, .null, .null, .null, .null, .null, .int 0, .null, .null, .int 0, .null, .null, .int 0, .null, .null, .int 0, .long 0, .null, .int 0, .null, .null, .null, .int 0])), (q1, .inl (X.2.1 0, 400, .inl (fun _ => 0))), (q2, .inl (X.2.1 0, 48, .inl (fun _ => 0))), (q3, .inl (X.2.1 0, 8, .inl (fun _ => 0)))] H locs := hw
  refine lv_aload_n C.1.1 C.1.2.1 dX11_init_29 rfl (lv_at hl 0 rfl) ?_
  refine lv_bipush (v := 8) C.1.1 C.1.2.1 dX11_init_30 (by decide) ?_
  refine n_newI C hw tw1_104 (N := 8) (by decide) (by decide) (Nat.le_of_ble_eq_true rfl) (Nat.le_of_ble_eq_true rfl) (Nat.le_of_ble_eq_true rfl) dX11_init_32 (fun q4 H hw => ?_)
  refine W.widen (k := 4) (n := 464) (Nat.le_of_ble_eq_true rfl) (Nat.le_of_ble_eq_true rfl) ?_
  refine n_put (k := 13) C hw 0 rfl cO11 (by decide) tw5_157 rfl rfl rfl (Nat.le_of_ble_eq_true rfl) rfl rfl dX11_init_34 (fun H locs hw => ?_)
  have hw : BW X a s.heap.size s.heap [(a, .inr (11, [.int 0, .ref q1, .int 0, .int 0, .int 0, .int 0, .int 0, .int 0, .int 0, .long 0, .int 0, .ref q2, .ref q3, .ref q4, .null, .int 0, .int 0, .int 0, .int 0, .null, .null, .int 0, .null, .null, .null, .null, .null, .int 0, .int 0, .int 0, .null, .null, .null, .null, .null, .int 0, .null, .null, .int 0, .null, .null, .int 0, .null, .null, .int 0, .long 0, .null, .int 0, .null, .null, .null, .int 0])), (q1, .inl (X.2.1 0, 400, .inl (fun _ => 0))), (q2, .inl (X.2.1 0, 48, .inl (fun _ => 0))), (q3, .inl (X.2.1 0, 8, .inl (fun _ => 0))), (q4, .inl (X.2.1 0, 8, .inl (fun _ => 0)))] H locs := hw
  refine lv_aload_n C.1.1 C.1.2.1 dX11_init_37 rfl (lv_at hl 0 rfl) ?_
  refine lv_bipush (v := 8) C.1.1 C.1.2.1 dX11_init_38 (by decide) ?_
  refine n_newL C hw tw6_61 (N := 8) (by decide) (by decide) (Nat.le_of_ble_eq_true rfl) (Nat.le_of_ble_eq_true rfl) (Nat.le_of_ble_eq_true rfl) dX11_init_40 (fun q5 H hw => ?_)
  refine W.widen (k := 5) (n := 472) (Nat.le_of_ble_eq_true rfl) (Nat.le_of_ble_eq_true rfl) ?_
  refine n_put (k := 14) C hw 0 rfl cO11 (by decide) tw5_158 rfl rfl rfl (Nat.le_of_ble_eq_true rfl) rfl rfl dX11_init_42 (fun H locs hw => ?_)
  have hw : BW X a s.heap.size s.heap [(a, .inr (11, [.int 0, .ref q1, .int 0, .int 0, .int 0, .int 0, .int 0, .int 0, .int 0, .long 0, .int 0, .ref q2, .ref q3, .ref q4, .ref q5, .int 0, .int 0, .int 0, .int 0, .null, .null, .int 0, .null, .null, .null, .null, .null, .int 0, .int 0, .int 0, .null, .null, .null, .null, .null, .int 0, .null, .null, .int 0, .null, .null, .int 0, .null, .null, .int 0, .long 0, .null, .int 0, .null, .null, .null, .int 0])), (q1, .inl (X.2.1 0, 400, .inl (fun _ => 0))), (q2, .inl (X.2.1 0, 48, .inl (fun _ => 0))), (q3, .inl (X.2.1 0, 8, .inl (fun _ => 0))), (q4, .inl (X.2.1 0, 8, .inl (fun _ => 0))), (q5, .inl (X.2.1 2, 8, .inr (.inl (fun _ => 0))))] H locs := hw
  refine lv_aload_n C.1.1 C.1.2.1 dX11_init_45 rfl (lv_at hl 0 rfl) ?_
  refine lv_sipush (v := 180) C.1.1 C.1.2.1 dX11_init_46 (by decide) ?_
  refine n_newI C hw tw1_104 (N := 180) (by decide) (by decide) (Nat.le_of_ble_eq_true rfl) (Nat.le_of_ble_eq_true rfl) (Nat.le_of_ble_eq_true rfl) dX11_init_49 (fun q6 H hw => ?_)
  refine W.widen (k := 6) (n := 652) (Nat.le_of_ble_eq_true rfl) (Nat.le_of_ble_eq_true rfl) ?_
  refine n_put (k := 19) C hw 0 rfl cO11 (by decide) tw5_163 rfl rfl rfl (Nat.le_of_ble_eq_true rfl) rfl rfl dX11_init_51 (fun H locs hw => ?_)
  have hw : BW X a s.heap.size s.heap [(a, .inr (11, [.int 0, .ref q1, .int 0, .int 0, .int 0, .int 0, .int 0, .int 0, .int 0, .long 0, .int 0, .ref q2, .ref q3, .ref q4, .ref q5, .int 0, .int 0, .int 0, .int 0, .ref q6, .null, .int 0, .null, .null, .null, .null, .null, .int 0, .int 0, .int 0, .null, .null, .null, .null, .null, .int 0, .null, .null, .int 0, .null, .null, .int 0, .null, .null, .int 0, .long 0, .null, .int 0, .null, .null, .null, .int 0])), (q1, .inl (X.2.1 0, 400, .inl (fun _ => 0))), (q2, .inl (X.2.1 0, 48, .inl (fun _ => 0))), (q3, .inl (X.2.1 0, 8, .inl (fun _ => 0))), (q4, .inl (X.2.1 0, 8, .inl (fun _ => 0))), (q5, .inl (X.2.1 2, 8, .inr (.inl (fun _ => 0)))), (q6, .inl (X.2.1 0, 180, .inl (fun _ => 0)))] H locs := hw
  refine lv_aload_n C.1.1 C.1.2.1 dX11_init_54 rfl (lv_at hl 0 rfl) ?_
  refine lv_iconst (v := 5) C.1.1 C.1.2.1 dX11_init_55 (by decide) ?_
  refine n_newI C hw tw1_104 (N := 5) (by decide) (by decide) (Nat.le_of_ble_eq_true rfl) (Nat.le_of_ble_eq_true rfl) (Nat.le_of_ble_eq_true rfl) dX11_init_56 (fun q7 H hw => ?_)
  refine W.widen (k := 7) (n := 657) (Nat.le_of_ble_eq_true rfl) (Nat.le_of_ble_eq_true rfl) ?_
  refine n_put (k := 20) C hw 0 rfl cO11 (by decide) tw5_164 rfl rfl rfl (Nat.le_of_ble_eq_true rfl) rfl rfl dX11_init_58 (fun H locs hw => ?_)
  have hw : BW X a s.heap.size s.heap [(a, .inr (11, [.int 0, .ref q1, .int 0, .int 0, .int 0, .int 0, .int 0, .int 0, .int 0, .long 0, .int 0, .ref q2, .ref q3, .ref q4, .ref q5, .int 0, .int 0, .int 0, .int 0, .ref q6, .ref q7, .int 0, .null, .null, .null, .null, .null, .int 0, .int 0, .int 0, .null, .null, .null, .null, .null, .int 0, .null, .null, .int 0, .null, .null, .int 0, .null, .null, .int 0, .long 0, .null, .int 0, .null, .null, .null, .int 0])), (q1, .inl (X.2.1 0, 400, .inl (fun _ => 0))), (q2, .inl (X.2.1 0, 48, .inl (fun _ => 0))), (q3, .inl (X.2.1 0, 8, .inl (fun _ => 0))), (q4, .inl (X.2.1 0, 8, .inl (fun _ => 0))), (q5, .inl (X.2.1 2, 8, .inr (.inl (fun _ => 0)))), (q6, .inl (X.2.1 0, 180, .inl (fun _ => 0))), (q7, .inl (X.2.1 0, 5, .inl (fun _ => 0)))] H locs := hw
  refine lv_aload_n C.1.1 C.1.2.1 dX11_init_61 rfl (lv_at hl 0 rfl) ?_
  refine lv_sipush (v := 231) C.1.1 C.1.2.1 dX11_init_62 (by decide) ?_
  refine n_newI C hw tw1_104 (N := 231) (by decide) (by decide) (Nat.le_of_ble_eq_true rfl) (Nat.le_of_ble_eq_true rfl) (Nat.le_of_ble_eq_true rfl) dX11_init_65 (fun q8 H hw => ?_)
  refine W.widen (k := 8) (n := 888) (Nat.le_of_ble_eq_true rfl) (Nat.le_of_ble_eq_true rfl) ?_
  refine n_put (k := 22) C hw 0 rfl cO11 (by decide) tw5_166 rfl rfl rfl (Nat.le_of_ble_eq_true rfl) rfl rfl dX11_init_67 (fun H locs hw => ?_)
  have hw : BW X a s.heap.size s.heap [(a, .inr (11, [.int 0, .ref q1, .int 0, .int 0, .int 0, .int 0, .int 0, .int 0, .int 0, .long 0, .int 0, .ref q2, .ref q3, .ref q4, .ref q5, .int 0, .int 0, .int 0, .int 0, .ref q6, .ref q7, .int 0, .ref q8, .null, .null, .null, .null, .int 0, .int 0, .int 0, .null, .null, .null, .null, .null, .int 0, .null, .null, .int 0, .null, .null, .int 0, .null, .null, .int 0, .long 0, .null, .int 0, .null, .null, .null, .int 0])), (q1, .inl (X.2.1 0, 400, .inl (fun _ => 0))), (q2, .inl (X.2.1 0, 48, .inl (fun _ => 0))), (q3, .inl (X.2.1 0, 8, .inl (fun _ => 0))), (q4, .inl (X.2.1 0, 8, .inl (fun _ => 0))), (q5, .inl (X.2.1 2, 8, .inr (.inl (fun _ => 0)))), (q6, .inl (X.2.1 0, 180, .inl (fun _ => 0))), (q7, .inl (X.2.1 0, 5, .inl (fun _ => 0))), (q8, .inl (X.2.1 0, 231, .inl (fun _ => 0)))] H locs := hw
  refine lv_aload_n C.1.1 C.1.2.1 dX11_init_70 rfl (lv_at hl 0 rfl) ?_
  refine lv_iconst (v := 2) C.1.1 C.1.2.1 dX11_init_71 (by decide) ?_
  refine n_newI C hw tw1_104 (N := 2) (by decide) (by decide) (Nat.le_of_ble_eq_true rfl) (Nat.le_of_ble_eq_true rfl) (Nat.le_of_ble_eq_true rfl) dX11_init_72 (fun q9 H hw => ?_)
  refine W.widen (k := 9) (n := 890) (Nat.le_of_ble_eq_true rfl) (Nat.le_of_ble_eq_true rfl) ?_
  refine n_put (k := 23) C hw 0 rfl cO11 (by decide) tw5_167 rfl rfl rfl (Nat.le_of_ble_eq_true rfl) rfl rfl dX11_init_74 (fun H locs hw => ?_)
  have hw : BW X a s.heap.size s.heap [(a, .inr (11, [.int 0, .ref q1, .int 0, .int 0, .int 0, .int 0, .int 0, .int 0, .int 0, .long 0, .int 0, .ref q2, .ref q3, .ref q4, .ref q5, .int 0, .int 0, .int 0, .int 0, .ref q6, .ref q7, .int 0, .ref q8, .ref q9, .null, .null, .null, .int 0, .int 0, .int 0, .null, .null, .null, .null, .null, .int 0, .null, .null, .int 0, .null, .null, .int 0, .null, .null, .int 0, .long 0, .null, .int 0, .null, .null, .null, .int 0])), (q1, .inl (X.2.1 0, 400, .inl (fun _ => 0))), (q2, .inl (X.2.1 0, 48, .inl (fun _ => 0))), (q3, .inl (X.2.1 0, 8, .inl (fun _ => 0))), (q4, .inl (X.2.1 0, 8, .inl (fun _ => 0))), (q5, .inl (X.2.1 2, 8, .inr (.inl (fun _ => 0)))), (q6, .inl (X.2.1 0, 180, .inl (fun _ => 0))), (q7, .inl (X.2.1 0, 5, .inl (fun _ => 0))), (q8, .inl (X.2.1 0, 231, .inl (fun _ => 0))), (q9, .inl (X.2.1 0, 2, .inl (fun _ => 0)))] H locs := hw
  refine lv_aload_n C.1.1 C.1.2.1 dX11_init_77 rfl (lv_at hl 0 rfl) ?_
  refine lv_bipush (v := 8) C.1.1 C.1.2.1 dX11_init_78 (by decide) ?_
  refine n_newI C hw tw1_104 (N := 8) (by decide) (by decide) (Nat.le_of_ble_eq_true rfl) (Nat.le_of_ble_eq_true rfl) (Nat.le_of_ble_eq_true rfl) dX11_init_80 (fun q10 H hw => ?_)
  refine W.widen (k := 10) (n := 898) (Nat.le_of_ble_eq_true rfl) (Nat.le_of_ble_eq_true rfl) ?_
  refine n_put (k := 24) C hw 0 rfl cO11 (by decide) tw5_168 rfl rfl rfl (Nat.le_of_ble_eq_true rfl) rfl rfl dX11_init_82 (fun H locs hw => ?_)
  have hw : BW X a s.heap.size s.heap [(a, .inr (11, [.int 0, .ref q1, .int 0, .int 0, .int 0, .int 0, .int 0, .int 0, .int 0, .long 0, .int 0, .ref q2, .ref q3, .ref q4, .ref q5, .int 0, .int 0, .int 0, .int 0, .ref q6, .ref q7, .int 0, .ref q8, .ref q9, .ref q10, .null, .null, .int 0, .int 0, .int 0, .null, .null, .null, .null, .null, .int 0, .null, .null, .int 0, .null, .null, .int 0, .null, .null, .int 0, .long 0, .null, .int 0, .null, .null, .null, .int 0])), (q1, .inl (X.2.1 0, 400, .inl (fun _ => 0))), (q2, .inl (X.2.1 0, 48, .inl (fun _ => 0))), (q3, .inl (X.2.1 0, 8, .inl (fun _ => 0))), (q4, .inl (X.2.1 0, 8, .inl (fun _ => 0))), (q5, .inl (X.2.1 2, 8, .inr (.inl (fun _ => 0)))), (q6, .inl (X.2.1 0, 180, .inl (fun _ => 0))), (q7, .inl (X.2.1 0, 5, .inl (fun _ => 0))), (q8, .inl (X.2.1 0, 231, .inl (fun _ => 0))), (q9, .inl (X.2.1 0, 2, .inl (fun _ => 0))), (q10, .inl (X.2.1 0, 8, .inl (fun _ => 0)))] H locs := hw
  refine lv_aload_n C.1.1 C.1.2.1 dX11_init_85 rfl (lv_at hl 0 rfl) ?_
  refine lv_bipush (v := 8) C.1.1 C.1.2.1 dX11_init_86 (by decide) ?_
  refine n_newI C hw tw1_104 (N := 8) (by decide) (by decide) (Nat.le_of_ble_eq_true rfl) (Nat.le_of_ble_eq_true rfl) (Nat.le_of_ble_eq_true rfl) dX11_init_88 (fun q11 H hw => ?_)
  refine W.widen (k := 11) (n := 906) (Nat.le_of_ble_eq_true rfl) (Nat.le_of_ble_eq_true rfl) ?_
  refine n_put (k := 25) C hw 0 rfl cO11 (by decide) tw5_169 rfl rfl rfl (Nat.le_of_ble_eq_true rfl) rfl rfl dX11_init_90 (fun H locs hw => ?_)
  have hw : BW X a s.heap.size s.heap [(a, .inr (11, [.int 0, .ref q1, .int 0, .int 0, .int 0, .int 0, .int 0, .int 0, .int 0, .long 0, .int 0, .ref q2, .ref q3, .ref q4, .ref q5, .int 0, .int 0, .int 0, .int 0, .ref q6, .ref q7, .int 0, .ref q8, .ref q9, .ref q10, .ref q11, .null, .int 0, .int 0, .int 0, .null, .null, .null, .null, .null, .int 0, .null, .null, .int 0, .null, .null, .int 0, .null, .null, .int 0, .long 0, .null, .int 0, .null, .null, .null, .int 0])), (q1, .inl (X.2.1 0, 400, .inl (fun _ => 0))), (q2, .inl (X.2.1 0, 48, .inl (fun _ => 0))), (q3, .inl (X.2.1 0, 8, .inl (fun _ => 0))), (q4, .inl (X.2.1 0, 8, .inl (fun _ => 0))), (q5, .inl (X.2.1 2, 8, .inr (.inl (fun _ => 0)))), (q6, .inl (X.2.1 0, 180, .inl (fun _ => 0))), (q7, .inl (X.2.1 0, 5, .inl (fun _ => 0))), (q8, .inl (X.2.1 0, 231, .inl (fun _ => 0))), (q9, .inl (X.2.1 0, 2, .inl (fun _ => 0))), (q10, .inl (X.2.1 0, 8, .inl (fun _ => 0))), (q11, .inl (X.2.1 0, 8, .inl (fun _ => 0)))] H locs := hw
  refine lv_aload_n C.1.1 C.1.2.1 dX11_init_93 rfl (lv_at hl 0 rfl) ?_
  refine lv_bipush (v := 8) C.1.1 C.1.2.1 dX11_init_94 (by decide) ?_
  refine n_newL C hw tw6_61 (N := 8) (by decide) (by decide) (Nat.le_of_ble_eq_true rfl) (Nat.le_of_ble_eq_true rfl) (Nat.le_of_ble_eq_true rfl) dX11_init_96 (fun q12 H hw => ?_)
  refine W.widen (k := 12) (n := 914) (Nat.le_of_ble_eq_true rfl) (Nat.le_of_ble_eq_true rfl) ?_
  refine n_put (k := 26) C hw 0 rfl cO11 (by decide) tw5_170 rfl rfl rfl (Nat.le_of_ble_eq_true rfl) rfl rfl dX11_init_98 (fun H locs hw => ?_)
  have hw : BW X a s.heap.size s.heap [(a, .inr (11, [.int 0, .ref q1, .int 0, .int 0, .int 0, .int 0, .int 0, .int 0, .int 0, .long 0, .int 0, .ref q2, .ref q3, .ref q4, .ref q5, .int 0, .int 0, .int 0, .int 0, .ref q6, .ref q7, .int 0, .ref q8, .ref q9, .ref q10, .ref q11, .ref q12, .int 0, .int 0, .int 0, .null, .null, .null, .null, .null, .int 0, .null, .null, .int 0, .null, .null, .int 0, .null, .null, .int 0, .long 0, .null, .int 0, .null, .null, .null, .int 0])), (q1, .inl (X.2.1 0, 400, .inl (fun _ => 0))), (q2, .inl (X.2.1 0, 48, .inl (fun _ => 0))), (q3, .inl (X.2.1 0, 8, .inl (fun _ => 0))), (q4, .inl (X.2.1 0, 8, .inl (fun _ => 0))), (q5, .inl (X.2.1 2, 8, .inr (.inl (fun _ => 0)))), (q6, .inl (X.2.1 0, 180, .inl (fun _ => 0))), (q7, .inl (X.2.1 0, 5, .inl (fun _ => 0))), (q8, .inl (X.2.1 0, 231, .inl (fun _ => 0))), (q9, .inl (X.2.1 0, 2, .inl (fun _ => 0))), (q10, .inl (X.2.1 0, 8, .inl (fun _ => 0))), (q11, .inl (X.2.1 0, 8, .inl (fun _ => 0))), (q12, .inl (X.2.1 2, 8, .inr (.inl (fun _ => 0))))] H locs := hw
  refine lv_aload_n C.1.1 C.1.2.1 dX11_init_101 rfl (lv_at hl 0 rfl) ?_
  refine lv_bipush (v := 48) C.1.1 C.1.2.1 dX11_init_102 (by decide) ?_
  refine n_newI C hw tw1_104 (N := 48) (by decide) (by decide) (Nat.le_of_ble_eq_true rfl) (Nat.le_of_ble_eq_true rfl) (Nat.le_of_ble_eq_true rfl) dX11_init_104 (fun q13 H hw => ?_)
  refine W.widen (k := 13) (n := 962) (Nat.le_of_ble_eq_true rfl) (Nat.le_of_ble_eq_true rfl) ?_
  refine n_put (k := 30) C hw 0 rfl cO11 (by decide) tw5_174 rfl rfl rfl (Nat.le_of_ble_eq_true rfl) rfl rfl dX11_init_106 (fun H locs hw => ?_)
  have hw : BW X a s.heap.size s.heap [(a, .inr (11, [.int 0, .ref q1, .int 0, .int 0, .int 0, .int 0, .int 0, .int 0, .int 0, .long 0, .int 0, .ref q2, .ref q3, .ref q4, .ref q5, .int 0, .int 0, .int 0, .int 0, .ref q6, .ref q7, .int 0, .ref q8, .ref q9, .ref q10, .ref q11, .ref q12, .int 0, .int 0, .int 0, .ref q13, .null, .null, .null, .null, .int 0, .null, .null, .int 0, .null, .null, .int 0, .null, .null, .int 0, .long 0, .null, .int 0, .null, .null, .null, .int 0])), (q1, .inl (X.2.1 0, 400, .inl (fun _ => 0))), (q2, .inl (X.2.1 0, 48, .inl (fun _ => 0))), (q3, .inl (X.2.1 0, 8, .inl (fun _ => 0))), (q4, .inl (X.2.1 0, 8, .inl (fun _ => 0))), (q5, .inl (X.2.1 2, 8, .inr (.inl (fun _ => 0)))), (q6, .inl (X.2.1 0, 180, .inl (fun _ => 0))), (q7, .inl (X.2.1 0, 5, .inl (fun _ => 0))), (q8, .inl (X.2.1 0, 231, .inl (fun _ => 0))), (q9, .inl (X.2.1 0, 2, .inl (fun _ => 0))), (q10, .inl (X.2.1 0, 8, .inl (fun _ => 0))), (q11, .inl (X.2.1 0, 8, .inl (fun _ => 0))), (q12, .inl (X.2.1 2, 8, .inr (.inl (fun _ => 0)))), (q13, .inl (X.2.1 0, 48, .inl (fun _ => 0)))] H locs := hw
  refine lv_aload_n C.1.1 C.1.2.1 dX11_init_109 rfl (lv_at hl 0 rfl) ?_
  refine lv_bipush (v := 48) C.1.1 C.1.2.1 dX11_init_110 (by decide) ?_
  refine n_newI C hw tw1_104 (N := 48) (by decide) (by decide) (Nat.le_of_ble_eq_true rfl) (Nat.le_of_ble_eq_true rfl) (Nat.le_of_ble_eq_true rfl) dX11_init_112 (fun q14 H hw => ?_)
  refine W.widen (k := 14) (n := 1010) (Nat.le_of_ble_eq_true rfl) (Nat.le_of_ble_eq_true rfl) ?_
  refine n_put (k := 31) C hw 0 rfl cO11 (by decide) tw5_175 rfl rfl rfl (Nat.le_of_ble_eq_true rfl) rfl rfl dX11_init_114 (fun H locs hw => ?_)
  have hw : BW X a s.heap.size s.heap [(a, .inr (11, [.int 0, .ref q1, .int 0, .int 0, .int 0, .int 0, .int 0, .int 0, .int 0, .long 0, .int 0, .ref q2, .ref q3, .ref q4, .ref q5, .int 0, .int 0, .int 0, .int 0, .ref q6, .ref q7, .int 0, .ref q8, .ref q9, .ref q10, .ref q11, .ref q12, .int 0, .int 0, .int 0, .ref q13, .ref q14, .null, .null, .null, .int 0, .null, .null, .int 0, .null, .null, .int 0, .null, .null, .int 0, .long 0, .null, .int 0, .null, .null, .null, .int 0])), (q1, .inl (X.2.1 0, 400, .inl (fun _ => 0))), (q2, .inl (X.2.1 0, 48, .inl (fun _ => 0))), (q3, .inl (X.2.1 0, 8, .inl (fun _ => 0))), (q4, .inl (X.2.1 0, 8, .inl (fun _ => 0))), (q5, .inl (X.2.1 2, 8, .inr (.inl (fun _ => 0)))), (q6, .inl (X.2.1 0, 180, .inl (fun _ => 0))), (q7, .inl (X.2.1 0, 5, .inl (fun _ => 0))), (q8, .inl (X.2.1 0, 231, .inl (fun _ => 0))), (q9, .inl (X.2.1 0, 2, .inl (fun _ => 0))), (q10, .inl (X.2.1 0, 8, .inl (fun _ => 0))), (q11, .inl (X.2.1 0, 8, .inl (fun _ => 0))), (q12, .inl (X.2.1 2, 8, .inr (.inl (fun _ => 0)))), (q13, .inl (X.2.1 0, 48, .inl (fun _ => 0))), (q14, .inl (X.2.1 0, 48, .inl (fun _ => 0)))] H locs := hw
  refine lv_aload_n C.1.1 C.1.2.1 dX11_init_117 rfl (lv_at hl 0 rfl) ?_
  refine lv_bipush (v := 48) C.1.1 C.1.2.1 dX11_init_118 (by decide) ?_
  refine n_newI C hw tw1_104 (N := 48) (by decide) (by decide) (Nat.le_of_ble_eq_true rfl) (Nat.le_of_ble_eq_true rfl) (Nat.le_of_ble_eq_true rfl) dX11_init_120 (fun q15 H hw => ?_)
  refine W.widen (k := 15) (n := 1058) (Nat.le_of_ble_eq_true rfl) (Nat.le_of_ble_eq_true rfl) ?_
  refine n_put (k := 32) C hw 0 rfl cO11 (by decide) tw5_176 rfl rfl rfl (Nat.le_of_ble_eq_true rfl) rfl rfl dX11_init_122 (fun H locs hw => ?_)
  have hw : BW X a s.heap.size s.heap [(a, .inr (11, [.int 0, .ref q1, .int 0, .int 0, .int 0, .int 0, .int 0, .int 0, .int 0, .long 0, .int 0, .ref q2, .ref q3, .ref q4, .ref q5, .int 0, .int 0, .int 0, .int 0, .ref q6, .ref q7, .int 0, .ref q8, .ref q9, .ref q10, .ref q11, .ref q12, .int 0, .int 0, .int 0, .ref q13, .ref q14, .ref q15, .null, .null, .int 0, .null, .null, .int 0, .null, .null, .int 0, .null, .null, .int 0, .long 0, .null, .int 0, .null, .null, .null, .int 0])), (q1, .inl (X.2.1 0, 400, .inl (fun _ => 0))), (q2, .inl (X.2.1 0, 48, .inl (fun _ => 0))), (q3, .inl (X.2.1 0, 8, .inl (fun _ => 0))), (q4, .inl (X.2.1 0, 8, .inl (fun _ => 0))), (q5, .inl (X.2.1 2, 8, .inr (.inl (fun _ => 0)))), (q6, .inl (X.2.1 0, 180, .inl (fun _ => 0))), (q7, .inl (X.2.1 0, 5, .inl (fun _ => 0))), (q8, .inl (X.2.1 0, 231, .inl (fun _ => 0))), (q9, .inl (X.2.1 0, 2, .inl (fun _ => 0))), (q10, .inl (X.2.1 0, 8, .inl (fun _ => 0))), (q11, .inl (X.2.1 0, 8, .inl (fun _ => 0))), (q12, .inl (X.2.1 2, 8, .inr (.inl (fun _ => 0)))), (q13, .inl (X.2.1 0, 48, .inl (fun _ => 0))), (q14, .inl (X.2.1 0, 48, .inl (fun _ => 0))), (q15, .inl (X.2.1 0, 48, .inl (fun _ => 0)))] H locs := hw
  refine lv_aload_n C.1.1 C.1.2.1 dX11_init_125 rfl (lv_at hl 0 rfl) ?_
  refine lv_bipush (v := 48) C.1.1 C.1.2.1 dX11_init_126 (by decide) ?_
  refine n_newI C hw tw1_104 (N := 48) (by decide) (by decide) (Nat.le_of_ble_eq_true rfl) (Nat.le_of_ble_eq_true rfl) (Nat.le_of_ble_eq_true rfl) dX11_init_128 (fun q16 H hw => ?_)
  refine W.widen (k := 16) (n := 1106) (Nat.le_of_ble_eq_true rfl) (Nat.le_of_ble_eq_true rfl) ?_
  refine n_put (k := 33) C hw 0 rfl cO11 (by decide) tw5_177 rfl rfl rfl (Nat.le_of_ble_eq_true rfl) rfl rfl dX11_init_130 (fun H locs hw => ?_)
  have hw : BW X a s.heap.size s.heap [(a, .inr (11, [.int 0, .ref q1, .int 0, .int 0, .int 0, .int 0, .int 0, .int 0, .int 0, .long 0, .int 0, .ref q2, .ref q3, .ref q4, .ref q5, .int 0, .int 0, .int 0, .int 0, .ref q6, .ref q7, .int 0, .ref q8, .ref q9, .ref q10, .ref q11, .ref q12, .int 0, .int 0, .int 0, .ref q13, .ref q14, .ref q15, .ref q16, .null, .int 0, .null, .null, .int 0, .null, .null, .int 0, .null, .null, .int 0, .long 0, .null, .int 0, .null, .null, .null, .int 0])), (q1, .inl (X.2.1 0, 400, .inl (fun _ => 0))), (q2, .inl (X.2.1 0, 48, .inl (fun _ => 0))), (q3, .inl (X.2.1 0, 8, .inl (fun _ => 0))), (q4, .inl (X.2.1 0, 8, .inl (fun _ => 0))), (q5, .inl (X.2.1 2, 8, .inr (.inl (fun _ => 0)))), (q6, .inl (X.2.1 0, 180, .inl (fun _ => 0))), (q7, .inl (X.2.1 0, 5, .inl (fun _ => 0))), (q8, .inl (X.2.1 0, 231, .inl (fun _ => 0))), (q9, .inl (X.2.1 0, 2, .inl (fun _ => 0))), (q10, .inl (X.2.1 0, 8, .inl (fun _ => 0))), (q11, .inl (X.2.1 0, 8, .inl (fun _ => 0))), (q12, .inl (X.2.1 2, 8, .inr (.inl (fun _ => 0)))), (q13, .inl (X.2.1 0, 48, .inl (fun _ => 0))), (q14, .inl (X.2.1 0, 48, .inl (fun _ => 0))), (q15, .inl (X.2.1 0, 48, .inl (fun _ => 0))), (q16, .inl (X.2.1 0, 48, .inl (fun _ => 0)))] H locs := hw
  refine lv_aload_n C.1.1 C.1.2.1 dX11_init_133 rfl (lv_at hl 0 rfl) ?_
  refine lv_bipush (v := 48) C.1.1 C.1.2.1 dX11_init_134 (by decide) ?_
  refine n_newI C hw tw1_104 (N := 48) (by decide) (by decide) (Nat.le_of_ble_eq_true rfl) (Nat.le_of_ble_eq_true rfl) (Nat.le_of_ble_eq_true rfl) dX11_init_136 (fun q17 H hw => ?_)
  refine W.widen (k := 17) (n := 1154) (Nat.le_of_ble_eq_true rfl) (Nat.le_of_ble_eq_true rfl) ?_
  refine n_put (k := 34) C hw 0 rfl cO11 (by decide) tw5_178 rfl rfl rfl (Nat.le_of_ble_eq_true rfl) rfl rfl dX11_init_138 (fun H locs hw => ?_)
  have hw : BW X a s.heap.size s.heap [(a, .inr (11, [.int 0, .ref q1, .int 0, .int 0, .int 0, .int 0, .int 0, .int 0, .int 0, .long 0, .int 0, .ref q2, .ref q3, .ref q4, .ref q5, .int 0, .int 0, .int 0, .int 0, .ref q6, .ref q7, .int 0, .ref q8, .ref q9, .ref q10, .ref q11, .ref q12, .int 0, .int 0, .int 0, .ref q13, .ref q14, .ref q15, .ref q16, .ref q17, .int 0, .null, .null, .int 0, .null, .null, .int 0, .null, .null, .int 0, .long 0, .null, .int 0, .null, .null, .null, .int 0])), (q1, .inl (X.2.1 0, 400, .inl (fun _ => 0))), (q2, .inl (X.2.1 0, 48, .inl (fun _ => 0))), (q3, .inl (X.2.1 0, 8, .inl (fun _ => 0))), (q4, .inl (X.2.1 0, 8, .inl (fun _ => 0))), (q5, .inl (X.2.1 2, 8, .inr (.inl (fun _ => 0)))), (q6, .inl (X.2.1 0, 180, .inl (fun _ => 0))), (q7, .inl (X.2.1 0, 5, .inl (fun _ => 0))), (q8, .inl (X.2.1 0, 231, .inl (fun _ => 0))), (q9, .inl (X.2.1 0, 2, .inl (fun _ => 0))), (q10, .inl (X.2.1 0, 8, .inl (fun _ => 0))), (q11, .inl (X.2.1 0, 8, .inl (fun _ => 0))), (q12, .inl (X.2.1 2, 8, .inr (.inl (fun _ => 0)))), (q13, .inl (X.2.1 0, 48, .inl (fun _ => 0))), (q14, .inl (X.2.1 0, 48, .inl (fun _ => 0))), (q15, .inl (X.2.1 0, 48, .inl (fun _ => 0))), (q16, .inl (X.2.1 0, 48, .inl (fun _ => 0))), (q17, .inl (X.2.1 0, 48, .inl (fun _ => 0)))] H locs := hw
  refine lv_aload_n C.1.1 C.1.2.1 dX11_init_141 rfl (lv_at hl 0 rfl) ?_
  refine lv_bipush (v := 48) C.1.1 C.1.2.1 dX11_init_142 (by decide) ?_
  refine n_newI C hw tw1_104 (N := 48) (by decide) (by decide) (Nat.le_of_ble_eq_true rfl) (Nat.le_of_ble_eq_true rfl) (Nat.le_of_ble_eq_true rfl) dX11_init_144 (fun q18 H hw => ?_)
  refine W.widen (k := 18) (n := 1202) (Nat.le_of_ble_eq_true rfl) (Nat.le_of_ble_eq_true rfl) ?_
  refine n_put (k := 36) C hw 0 rfl cO11 (by decide) tw5_180 rfl rfl rfl (Nat.le_of_ble_eq_true rfl) rfl rfl dX11_init_146 (fun H locs hw => ?_)
  have hw : BW X a s.heap.size s.heap [(a, .inr (11, [.int 0, .ref q1, .int 0, .int 0, .int 0, .int 0, .int 0, .int 0, .int 0, .long 0, .int 0, .ref q2, .ref q3, .ref q4, .ref q5, .int 0, .int 0, .int 0, .int 0, .ref q6, .ref q7, .int 0, .ref q8, .ref q9, .ref q10, .ref q11, .ref q12, .int 0, .int 0, .int 0, .ref q13, .ref q14, .ref q15, .ref q16, .ref q17, .int 0, .ref q18, .null, .int 0, .null, .null, .int 0, .null, .null, .int 0, .long 0, .null, .int 0, .null, .null, .null, .int 0])), (q1, .inl (X.2.1 0, 400, .inl (fun _ => 0))), (q2, .inl (X.2.1 0, 48, .inl (fun _ => 0))), (q3, .inl (X.2.1 0, 8, .inl (fun _ => 0))), (q4, .inl (X.2.1 0, 8, .inl (fun _ => 0))), (q5, .inl (X.2.1 2, 8, .inr (.inl (fun _ => 0)))), (q6, .inl (X.2.1 0, 180, .inl (fun _ => 0))), (q7, .inl (X.2.1 0, 5, .inl (fun _ => 0))), (q8, .inl (X.2.1 0, 231, .inl (fun _ => 0))), (q9, .inl (X.2.1 0, 2, .inl (fun _ => 0))), (q10, .inl (X.2.1 0, 8, .inl (fun _ => 0))), (q11, .inl (X.2.1 0, 8, .inl (fun _ => 0))), (q12, .inl (X.2.1 2, 8, .inr (.inl (fun _ => 0)))), (q13, .inl (X.2.1 0, 48, .inl (fun _ => 0))), (q14, .inl (X.2.1 0, 48, .inl (fun _ => 0))), (q15, .inl (X.2.1 0, 48, .inl (fun _ => 0))), (q16, .inl (X.2.1 0, 48, .inl (fun _ => 0))), (q17, .inl (X.2.1 0, 48, .inl (fun _ => 0))), (q18, .inl (X.2.1 0, 48, .inl (fun _ => 0)))] H locs := hw
  refine lv_aload_n C.1.1 C.1.2.1 dX11_init_149 rfl (lv_at hl 0 rfl) ?_
  refine lv_bipush (v := 48) C.1.1 C.1.2.1 dX11_init_150 (by decide) ?_
  refine n_newI C hw tw1_104 (N := 48) (by decide) (by decide) (Nat.le_of_ble_eq_true rfl) (Nat.le_of_ble_eq_true rfl) (Nat.le_of_ble_eq_true rfl) dX11_init_152 (fun q19 H hw => ?_)
  refine W.widen (k := 19) (n := 1250) (Nat.le_of_ble_eq_true rfl) (Nat.le_of_ble_eq_true rfl) ?_
  refine n_put (k := 37) C hw 0 rfl cO11 (by decide) tw5_181 rfl rfl rfl (Nat.le_of_ble_eq_true rfl) rfl rfl dX11_init_154 (fun H locs hw => ?_)
  have hw : BW X a s.heap.size s.heap [(a, .inr (11, [.int 0, .ref q1, .int 0, .int 0, .int 0, .int 0, .int 0, .int 0, .int 0, .long 0, .int 0, .ref q2, .ref q3, .ref q4, .ref q5, .int 0, .int 0, .int 0, .int 0, .ref q6, .ref q7, .int 0, .ref q8, .ref q9, .ref q10, .ref q11, .ref q12, .int 0, .int 0, .int 0, .ref q13, .ref q14, .ref q15, .ref q16, .ref q17, .int 0, .ref q18, .ref q19, .int 0, .null, .null, .int 0, .null, .null, .int 0, .long 0, .null, .int 0, .null, .null, .null, .int 0])), (q1, .inl (X.2.1 0, 400, .inl (fun _ => 0))), (q2, .inl (X.2.1 0, 48, .inl (fun _ => 0))), (q3, .inl (X.2.1 0, 8, .inl (fun _ => 0))), (q4, .inl (X.2.1 0, 8, .inl (fun _ => 0))), (q5, .inl (X.2.1 2, 8, .inr (.inl (fun _ => 0)))), (q6, .inl (X.2.1 0, 180, .inl (fun _ => 0))), (q7, .inl (X.2.1 0, 5, .inl (fun _ => 0))), (q8, .inl (X.2.1 0, 231, .inl (fun _ => 0))), (q9, .inl (X.2.1 0, 2, .inl (fun _ => 0))), (q10, .inl (X.2.1 0, 8, .inl (fun _ => 0))), (q11, .inl (X.2.1 0, 8, .inl (fun _ => 0))), (q12, .inl (X.2.1 2, 8, .inr (.inl (fun _ => 0)))), (q13, .inl (X.2.1 0, 48, .inl (fun _ => 0))), (q14, .inl (X.2.1 0, 48, .inl (fun _ => 0))), (q15, .inl (X.2.1 0, 48, .inl (fun _ => 0))), (q16, .inl (X.2.1 0, 48, .inl (fun _ => 0))), (q17, .inl (X.2.1 0, 48, .inl (fun _ => 0))), (q18, .inl (X.2.1 0, 48, .inl (fun _ => 0))), (q19, .inl (X.2.1 0, 48, .inl (fun _ => 0)))] H locs := hw
  refine lv_aload_n C.1.1 C.1.2.1 dX11_init_157 rfl (lv_at hl 0 rfl) ?_
  refine lv_bipush (v := 48) C.1.1 C.1.2.1 dX11_init_158 (by decide) ?_
  refine n_newI C hw tw1_104 (N := 48) (by decide) (by decide) (Nat.le_of_ble_eq_true rfl) (Nat.le_of_ble_eq_true rfl) (Nat.le_of_ble_eq_true rfl) dX11_init_160 (fun q20 H hw => ?_)
  refine W.widen (k := 20) (n := 1298) (Nat.le_of_ble_eq_true rfl) (Nat.le_of_ble_eq_true rfl) ?_
  refine n_put (k := 39) C hw 0 rfl cO11 (by decide) tw5_183 rfl rfl rfl (Nat.le_of_ble_eq_true rfl) rfl rfl dX11_init_162 (fun H locs hw => ?_)
  have hw : BW X a s.heap.size s.heap [(a, .inr (11, [.int 0, .ref q1, .int 0, .int 0, .int 0, .int 0, .int 0, .int 0, .int 0, .long 0, .int 0, .ref q2, .ref q3, .ref q4, .ref q5, .int 0, .int 0, .int 0, .int 0, .ref q6, .ref q7, .int 0, .ref q8, .ref q9, .ref q10, .ref q11, .ref q12, .int 0, .int 0, .int 0, .ref q13, .ref q14, .ref q15, .ref q16, .ref q17, .int 0, .ref q18, .ref q19, .int 0, .ref q20, .null, .int 0, .null, .null, .int 0, .long 0, .null, .int 0, .null, .null, .null, .int 0])), (q1, .inl (X.2.1 0, 400, .inl (fun _ => 0))), (q2, .inl (X.2.1 0, 48, .inl (fun _ => 0))), (q3, .inl (X.2.1 0, 8, .inl (fun _ => 0))), (q4, .inl (X.2.1 0, 8, .inl (fun _ => 0))), (q5, .inl (X.2.1 2, 8, .inr (.inl (fun _ => 0)))), (q6, .inl (X.2.1 0, 180, .inl (fun _ => 0))), (q7, .inl (X.2.1 0, 5, .inl (fun _ => 0))), (q8, .inl (X.2.1 0, 231, .inl (fun _ => 0))), (q9, .inl (X.2.1 0, 2, .inl (fun _ => 0))), (q10, .inl (X.2.1 0, 8, .inl (fun _ => 0))), (q11, .inl (X.2.1 0, 8, .inl (fun _ => 0))), (q12, .inl (X.2.1 2, 8, .inr (.inl (fun _ => 0)))), (q13, .inl (X.2.1 0, 48, .inl (fun _ => 0))), (q14, .inl (X.2.1 0, 48, .inl (fun _ => 0))), (q15, .inl (X.2.1 0, 48, .inl (fun _ => 0))), (q16, .inl (X.2.1 0, 48, .inl (fun _ => 0))), (q17, .inl (X.2.1 0, 48, .inl (fun _ => 0))), (q18, .inl (X.2.1 0, 48, .inl (fun _ => 0))), (q19, .inl (X.2.1 0, 48, .inl (fun _ => 0))), (q20, .inl (X.2.1 0, 48, .inl (fun _ => 0)))] H locs := hw
  refine lv_aload_n C.1.1 C.1.2.1 dX11_init_165 rfl (lv_at hl 0 rfl) ?_
  refine lv_bipush (v := 8) C.1.1 C.1.2.1 dX11_init_166 (by decide) ?_
  refine n_newI C hw tw1_104 (N := 8) (by decide) (by decide) (Nat.le_of_ble_eq_true rfl) (Nat.le_of_ble_eq_true rfl) (Nat.le_of_ble_eq_true rfl) dX11_init_168 (fun q21 H hw => ?_)
  refine W.widen (k := 21) (n := 1306) (Nat.le_of_ble_eq_true rfl) (Nat.le_of_ble_eq_true rfl) ?_
  refine n_put (k := 40) C hw 0 rfl cO11 (by decide) tw5_184 rfl rfl rfl (Nat.le_of_ble_eq_true rfl) rfl rfl dX11_init_170 (fun H locs hw => ?_)
  have hw : BW X a s.heap.size s.heap [(a, .inr (11, [.int 0, .ref q1, .int 0, .int 0, .int 0, .int 0, .int 0, .int 0, .int 0, .long 0, .int 0, .ref q2, .ref q3, .ref q4, .ref q5, .int 0, .int 0, .int 0, .int 0, .ref q6, .ref q7, .int 0, .ref q8, .ref q9, .ref q10, .ref q11, .ref q12, .int 0, .int 0, .int 0, .ref q13, .ref q14, .ref q15, .ref q16, .ref q17, .int 0, .ref q18, .ref q19, .int 0, .ref q20, .ref q21, .int 0, .null, .null, .int 0, .long 0, .null, .int 0, .null, .null, .null, .int 0])), (q1, .inl (X.2.1 0, 400, .inl (fun _ => 0))), (q2, .inl (X.2.1 0, 48, .inl (fun _ => 0))), (q3, .inl (X.2.1 0, 8, .inl (fun _ => 0))), (q4, .inl (X.2.1 0, 8, .inl (fun _ => 0))), (q5, .inl (X.2.1 2, 8, .inr (.inl (fun _ => 0)))), (q6, .inl (X.2.1 0, 180, .inl (fun _ => 0))), (q7, .inl (X.2.1 0, 5, .inl (fun _ => 0))), (q8, .inl (X.2.1 0, 231, .inl (fun _ => 0))), (q9, .inl (X.2.1 0, 2, .inl (fun _ => 0))), (q10, .inl (X.2.1 0, 8, .inl (fun _ => 0))), (q11, .inl (X.2.1 0, 8, .inl (fun _ => 0))), (q12, .inl (X.2.1 2, 8, .inr (.inl (fun _ => 0)))), (q13, .inl (X.2.1 0, 48, .inl (fun _ => 0))), (q14, .inl (X.2.1 0, 48, .inl (fun _ => 0))), (q15, .inl (X.2.1 0, 48, .inl (fun _ => 0))), (q16, .inl (X.2.1 0, 48, .inl (fun _ => 0))), (q17, .inl (X.2.1 0, 48, .inl (fun _ => 0))), (q18, .inl (X.2.1 0, 48, .inl (fun _ => 0))), (q19, .inl (X.2.1 0, 48, .inl (fun _ => 0))), (q20, .inl (X.2.1 0, 48, .inl (fun _ => 0))), (q21, .inl (X.2.1 0, 8, .inl (fun _ => 0)))] H locs := hw
  refine lv_aload_n C.1.1 C.1.2.1 dX11_init_173 rfl (lv_at hl 0 rfl) ?_
  refine lv_bipush (v := 48) C.1.1 C.1.2.1 dX11_init_174 (by decide) ?_
  refine n_newI C hw tw1_104 (N := 48) (by decide) (by decide) (Nat.le_of_ble_eq_true rfl) (Nat.le_of_ble_eq_true rfl) (Nat.le_of_ble_eq_true rfl) dX11_init_176 (fun q22 H hw => ?_)
  refine W.widen (k := 22) (n := 1354) (Nat.le_of_ble_eq_true rfl) (Nat.le_of_ble_eq_true rfl) ?_
  refine n_put (k := 42) C hw 0 rfl cO11 (by decide) tw5_186 rfl rfl rfl (Nat.le_of_ble_eq_true rfl) rfl rfl dX11_init_178 (fun H locs hw => ?_)
  have hw : BW X a s.heap.size s.heap [(a, .inr (11, [.int 0, .ref q1, .int 0, .int 0, .int 0, .int 0, .int 0, .int 0, .int 0, .long 0, .int 0, .ref q2, .ref q3, .ref q4, .ref q5, .int 0, .int 0, .int 0, .int 0, .ref q6, .ref q7, .int 0, .ref q8, .ref q9, .ref q10, .ref q11, .ref q12, .int 0, .int 0, .int 0, .ref q13, .ref q14, .ref q15, .ref q16, .ref q17, .int 0, .ref q18, .ref q19, .int 0, .ref q20, .ref q21, .int 0, .ref q22, .null, .int 0, .long 0, .null, .int 0, .null, .null, .null, .int 0])), (q1, .inl (X.2.1 0, 400, .inl (fun _ => 0))), (q2, .inl (X.2.1 0, 48, .inl (fun _ => 0))), (q3, .inl (X.2.1 0, 8, .inl (fun _ => 0))), (q4, .inl (X.2.1 0, 8, .inl (fun _ => 0))), (q5, .inl (X.2.1 2, 8, .inr (.inl (fun _ => 0)))), (q6, .inl (X.2.1 0, 180, .inl (fun _ => 0))), (q7, .inl (X.2.1 0, 5, .inl (fun _ => 0))), (q8, .inl (X.2.1 0, 231, .inl (fun _ => 0))), (q9, .inl (X.2.1 0, 2, .inl (fun _ => 0))), (q10, .inl (X.2.1 0, 8, .inl (fun _ => 0))), (q11, .inl (X.2.1 0, 8, .inl (fun _ => 0))), (q12, .inl (X.2.1 2, 8, .inr (.inl (fun _ => 0)))), (q13, .inl (X.2.1 0, 48, .inl (fun _ => 0))), (q14, .inl (X.2.1 0, 48, .inl (fun _ => 0))), (q15, .inl (X.2.1 0, 48, .inl (fun _ => 0))), (q16, .inl (X.2.1 0, 48, .inl (fun _ => 0))), (q17, .inl (X.2.1 0, 48, .inl (fun _ => 0))), (q18, .inl (X.2.1 0, 48, .inl (fun _ => 0))), (q19, .inl (X.2.1 0, 48, .inl (fun _ => 0))), (q20, .inl (X.2.1 0, 48, .inl (fun _ => 0))), (q21, .inl (X.2.1 0, 8, .inl (fun _ => 0))), (q22, .inl (X.2.1 0, 48, .inl (fun _ => 0)))] H locs := hw
  refine lv_aload_n C.1.1 C.1.2.1 dX11_init_181 rfl (lv_at hl 0 rfl) ?_
  refine lv_sipush (v := 9240) C.1.1 C.1.2.1 dX11_init_182 (by decide) ?_
  refine n_newI C hw tw1_104 (N := 9240) (by decide) (by decide) (Nat.le_of_ble_eq_true rfl) (Nat.le_of_ble_eq_true rfl) (Nat.le_of_ble_eq_true rfl) dX11_init_185 (fun q23 H hw => ?_)
  refine W.widen (k := 23) (n := 10594) (Nat.le_of_ble_eq_true rfl) (Nat.le_of_ble_eq_true rfl) ?_
  refine n_put (k := 43) C hw 0 rfl cO11 (by decide) tw5_187 rfl rfl rfl (Nat.le_of_ble_eq_true rfl) rfl rfl dX11_init_187 (fun H locs hw => ?_)
  have hw : BW X a s.heap.size s.heap [(a, .inr (11, [.int 0, .ref q1, .int 0, .int 0, .int 0, .int 0, .int 0, .int 0, .int 0, .long 0, .int 0, .ref q2, .ref q3, .ref q4, .ref q5, .int 0, .int 0, .int 0, .int 0, .ref q6, .ref q7, .int 0, .ref q8, .ref q9, .ref q10, .ref q11, .ref q12, .int 0, .int 0, .int 0, .ref q13, .ref q14, .ref q15, .ref q16, .ref q17, .int 0, .ref q18, .ref q19, .int 0, .ref q20, .ref q21, .int 0, .ref q22, .ref q23, .int 0, .long 0, .null, .int 0, .null, .null, .null, .int 0])), (q1, .inl (X.2.1 0, 400, .inl (fun _ => 0))), (q2, .inl (X.2.1 0, 48, .inl (fun _ => 0))), (q3, .inl (X.2.1 0, 8, .inl (fun _ => 0))), (q4, .inl (X.2.1 0, 8, .inl (fun _ => 0))), (q5, .inl (X.2.1 2, 8, .inr (.inl (fun _ => 0)))), (q6, .inl (X.2.1 0, 180, .inl (fun _ => 0))), (q7, .inl (X.2.1 0, 5, .inl (fun _ => 0))), (q8, .inl (X.2.1 0, 231, .inl (fun _ => 0))), (q9, .inl (X.2.1 0, 2, .inl (fun _ => 0))), (q10, .inl (X.2.1 0, 8, .inl (fun _ => 0))), (q11, .inl (X.2.1 0, 8, .inl (fun _ => 0))), (q12, .inl (X.2.1 2, 8, .inr (.inl (fun _ => 0)))), (q13, .inl (X.2.1 0, 48, .inl (fun _ => 0))), (q14, .inl (X.2.1 0, 48, .inl (fun _ => 0))), (q15, .inl (X.2.1 0, 48, .inl (fun _ => 0))), (q16, .inl (X.2.1 0, 48, .inl (fun _ => 0))), (q17, .inl (X.2.1 0, 48, .inl (fun _ => 0))), (q18, .inl (X.2.1 0, 48, .inl (fun _ => 0))), (q19, .inl (X.2.1 0, 48, .inl (fun _ => 0))), (q20, .inl (X.2.1 0, 48, .inl (fun _ => 0))), (q21, .inl (X.2.1 0, 8, .inl (fun _ => 0))), (q22, .inl (X.2.1 0, 48, .inl (fun _ => 0))), (q23, .inl (X.2.1 0, 9240, .inl (fun _ => 0)))] H locs := hw
  refine lv_aload_n C.1.1 C.1.2.1 dX11_init_190 rfl (lv_at hl 0 rfl) ?_
  refine lv_sipush (v := 231) C.1.1 C.1.2.1 dX11_init_191 (by decide) ?_
  refine n_newI C hw tw1_104 (N := 231) (by decide) (by decide) (Nat.le_of_ble_eq_true rfl) (Nat.le_of_ble_eq_true rfl) (Nat.le_of_ble_eq_true rfl) dX11_init_194 (fun q24 H hw => ?_)
  refine W.widen (k := 24) (n := 10825) (Nat.le_of_ble_eq_true rfl) (Nat.le_of_ble_eq_true rfl) ?_
  refine n_put (k := 46) C hw 0 rfl cO11 (by decide) tw5_190 rfl rfl rfl (Nat.le_of_ble_eq_true rfl) rfl rfl dX11_init_196 (fun H locs hw => ?_)
  have hw : BW X a s.heap.size s.heap [(a, .inr (11, [.int 0, .ref q1, .int 0, .int 0, .int 0, .int 0, .int 0, .int 0, .int 0, .long 0, .int 0, .ref q2, .ref q3, .ref q4, .ref q5, .int 0, .int 0, .int 0, .int 0, .ref q6, .ref q7, .int 0, .ref q8, .ref q9, .ref q10, .ref q11, .ref q12, .int 0, .int 0, .int 0, .ref q13, .ref q14, .ref q15, .ref q16, .ref q17, .int 0, .ref q18, .ref q19, .int 0, .ref q20, .ref q21, .int 0, .ref q22, .ref q23, .int 0, .long 0, .ref q24, .int 0, .null, .null, .null, .int 0])), (q1, .inl (X.2.1 0, 400, .inl (fun _ => 0))), (q2, .inl (X.2.1 0, 48, .inl (fun _ => 0))), (q3, .inl (X.2.1 0, 8, .inl (fun _ => 0))), (q4, .inl (X.2.1 0, 8, .inl (fun _ => 0))), (q5, .inl (X.2.1 2, 8, .inr (.inl (fun _ => 0)))), (q6, .inl (X.2.1 0, 180, .inl (fun _ => 0))), (q7, .inl (X.2.1 0, 5, .inl (fun _ => 0))), (q8, .inl (X.2.1 0, 231, .inl (fun _ => 0))), (q9, .inl (X.2.1 0, 2, .inl (fun _ => 0))), (q10, .inl (X.2.1 0, 8, .inl (fun _ => 0))), (q11, .inl (X.2.1 0, 8, .inl (fun _ => 0))), (q12, .inl (X.2.1 2, 8, .inr (.inl (fun _ => 0)))), (q13, .inl (X.2.1 0, 48, .inl (fun _ => 0))), (q14, .inl (X.2.1 0, 48, .inl (fun _ => 0))), (q15, .inl (X.2.1 0, 48, .inl (fun _ => 0))), (q16, .inl (X.2.1 0, 48, .inl (fun _ => 0))), (q17, .inl (X.2.1 0, 48, .inl (fun _ => 0))), (q18, .inl (X.2.1 0, 48, .inl (fun _ => 0))), (q19, .inl (X.2.1 0, 48, .inl (fun _ => 0))), (q20, .inl (X.2.1 0, 48, .inl (fun _ => 0))), (q21, .inl (X.2.1 0, 8, .inl (fun _ => 0))), (q22, .inl (X.2.1 0, 48, .inl (fun _ => 0))), (q23, .inl (X.2.1 0, 9240, .inl (fun _ => 0))), (q24, .inl (X.2.1 0, 231, .inl (fun _ => 0)))] H locs := hw
  refine lv_aload_n C.1.1 C.1.2.1 dX11_init_199 rfl (lv_at hl 0 rfl) ?_
  refine lv_bipush (v := 50) C.1.1 C.1.2.1 dX11_init_200 (by decide) ?_
  refine n_newI C hw tw1_104 (N := 50) (by decide) (by decide) (Nat.le_of_ble_eq_true rfl) (Nat.le_of_ble_eq_true rfl) (Nat.le_of_ble_eq_true rfl) dX11_init_202 (fun q25 H hw => ?_)
  refine W.widen (k := 25) (n := 10875) (Nat.le_of_ble_eq_true rfl) (Nat.le_of_ble_eq_true rfl) ?_
  refine n_put (k := 48) C hw 0 rfl cO11 (by decide) tw5_192 rfl rfl rfl (Nat.le_of_ble_eq_true rfl) rfl rfl dX11_init_204 (fun H locs hw => ?_)
  have hw : BW X a s.heap.size s.heap [(a, .inr (11, [.int 0, .ref q1, .int 0, .int 0, .int 0, .int 0, .int 0, .int 0, .int 0, .long 0, .int 0, .ref q2, .ref q3, .ref q4, .ref q5, .int 0, .int 0, .int 0, .int 0, .ref q6, .ref q7, .int 0, .ref q8, .ref q9, .ref q10, .ref q11, .ref q12, .int 0, .int 0, .int 0, .ref q13, .ref q14, .ref q15, .ref q16, .ref q17, .int 0, .ref q18, .ref q19, .int 0, .ref q20, .ref q21, .int 0, .ref q22, .ref q23, .int 0, .long 0, .ref q24, .int 0, .ref q25, .null, .null, .int 0])), (q1, .inl (X.2.1 0, 400, .inl (fun _ => 0))), (q2, .inl (X.2.1 0, 48, .inl (fun _ => 0))), (q3, .inl (X.2.1 0, 8, .inl (fun _ => 0))), (q4, .inl (X.2.1 0, 8, .inl (fun _ => 0))), (q5, .inl (X.2.1 2, 8, .inr (.inl (fun _ => 0)))), (q6, .inl (X.2.1 0, 180, .inl (fun _ => 0))), (q7, .inl (X.2.1 0, 5, .inl (fun _ => 0))), (q8, .inl (X.2.1 0, 231, .inl (fun _ => 0))), (q9, .inl (X.2.1 0, 2, .inl (fun _ => 0))), (q10, .inl (X.2.1 0, 8, .inl (fun _ => 0))), (q11, .inl (X.2.1 0, 8, .inl (fun _ => 0))), (q12, .inl (X.2.1 2, 8, .inr (.inl (fun _ => 0)))), (q13, .inl (X.2.1 0, 48, .inl (fun _ => 0))), (q14, .inl (X.2.1 0, 48, .inl (fun _ => 0))), (q15, .inl (X.2.1 0, 48, .inl (fun _ => 0))), (q16, .inl (X.2.1 0, 48, .inl (fun _ => 0))), (q17, .inl (X.2.1 0, 48, .inl (fun _ => 0))), (q18, .inl (X.2.1 0, 48, .inl (fun _ => 0))), (q19, .inl (X.2.1 0, 48, .inl (fun _ => 0))), (q20, .inl (X.2.1 0, 48, .inl (fun _ => 0))), (q21, .inl (X.2.1 0, 8, .inl (fun _ => 0))), (q22, .inl (X.2.1 0, 48, .inl (fun _ => 0))), (q23, .inl (X.2.1 0, 9240, .inl (fun _ => 0))), (q24, .inl (X.2.1 0, 231, .inl (fun _ => 0))), (q25, .inl (X.2.1 0, 50, .inl (fun _ => 0)))] H locs := hw
  refine lv_aload_n C.1.1 C.1.2.1 dX11_init_207 rfl (lv_at hl 0 rfl) ?_
  refine lv_bipush (v := 48) C.1.1 C.1.2.1 dX11_init_208 (by decide) ?_
  refine n_newI C hw tw1_104 (N := 48) (by decide) (by decide) (Nat.le_of_ble_eq_true rfl) (Nat.le_of_ble_eq_true rfl) (Nat.le_of_ble_eq_true rfl) dX11_init_210 (fun q26 H hw => ?_)
  refine W.widen (k := 26) (n := 10923) (Nat.le_of_ble_eq_true rfl) (Nat.le_of_ble_eq_true rfl) ?_
  refine n_put (k := 49) C hw 0 rfl cO11 (by decide) tw5_193 rfl rfl rfl (Nat.le_of_ble_eq_true rfl) rfl rfl dX11_init_212 (fun H locs hw => ?_)
  have hw : BW X a s.heap.size s.heap [(a, .inr (11, [.int 0, .ref q1, .int 0, .int 0, .int 0, .int 0, .int 0, .int 0, .int 0, .long 0, .int 0, .ref q2, .ref q3, .ref q4, .ref q5, .int 0, .int 0, .int 0, .int 0, .ref q6, .ref q7, .int 0, .ref q8, .ref q9, .ref q10, .ref q11, .ref q12, .int 0, .int 0, .int 0, .ref q13, .ref q14, .ref q15, .ref q16, .ref q17, .int 0, .ref q18, .ref q19, .int 0, .ref q20, .ref q21, .int 0, .ref q22, .ref q23, .int 0, .long 0, .ref q24, .int 0, .ref q25, .ref q26, .null, .int 0])), (q1, .inl (X.2.1 0, 400, .inl (fun _ => 0))), (q2, .inl (X.2.1 0, 48, .inl (fun _ => 0))), (q3, .inl (X.2.1 0, 8, .inl (fun _ => 0))), (q4, .inl (X.2.1 0, 8, .inl (fun _ => 0))), (q5, .inl (X.2.1 2, 8, .inr (.inl (fun _ => 0)))), (q6, .inl (X.2.1 0, 180, .inl (fun _ => 0))), (q7, .inl (X.2.1 0, 5, .inl (fun _ => 0))), (q8, .inl (X.2.1 0, 231, .inl (fun _ => 0))), (q9, .inl (X.2.1 0, 2, .inl (fun _ => 0))), (q10, .inl (X.2.1 0, 8, .inl (fun _ => 0))), (q11, .inl (X.2.1 0, 8, .inl (fun _ => 0))), (q12, .inl (X.2.1 2, 8, .inr (.inl (fun _ => 0)))), (q13, .inl (X.2.1 0, 48, .inl (fun _ => 0))), (q14, .inl (X.2.1 0, 48, .inl (fun _ => 0))), (q15, .inl (X.2.1 0, 48, .inl (fun _ => 0))), (q16, .inl (X.2.1 0, 48, .inl (fun _ => 0))), (q17, .inl (X.2.1 0, 48, .inl (fun _ => 0))), (q18, .inl (X.2.1 0, 48, .inl (fun _ => 0))), (q19, .inl (X.2.1 0, 48, .inl (fun _ => 0))), (q20, .inl (X.2.1 0, 48, .inl (fun _ => 0))), (q21, .inl (X.2.1 0, 8, .inl (fun _ => 0))), (q22, .inl (X.2.1 0, 48, .inl (fun _ => 0))), (q23, .inl (X.2.1 0, 9240, .inl (fun _ => 0))), (q24, .inl (X.2.1 0, 231, .inl (fun _ => 0))), (q25, .inl (X.2.1 0, 50, .inl (fun _ => 0))), (q26, .inl (X.2.1 0, 48, .inl (fun _ => 0)))] H locs := hw
  refine lv_aload_n C.1.1 C.1.2.1 dX11_init_215 rfl (lv_at hl 0 rfl) ?_
  refine lv_bipush (v := 40) C.1.1 C.1.2.1 dX11_init_216 (by decide) ?_
  refine n_newI C hw tw1_104 (N := 40) (by decide) (by decide) (Nat.le_of_ble_eq_true rfl) (Nat.le_of_ble_eq_true rfl) (Nat.le_of_ble_eq_true rfl) dX11_init_218 (fun q27 H hw => ?_)
  refine W.widen (k := 27) (n := 10963) (Nat.le_of_ble_eq_true rfl) (Nat.le_of_ble_eq_true rfl) ?_
  refine n_put (k := 50) C hw 0 rfl cO11 (by decide) tw5_194 rfl rfl rfl (Nat.le_of_ble_eq_true rfl) rfl rfl dX11_init_220 (fun H locs hw => ?_)
  have hw : BW X a s.heap.size s.heap [(a, .inr (11, [.int 0, .ref q1, .int 0, .int 0, .int 0, .int 0, .int 0, .int 0, .int 0, .long 0, .int 0, .ref q2, .ref q3, .ref q4, .ref q5, .int 0, .int 0, .int 0, .int 0, .ref q6, .ref q7, .int 0, .ref q8, .ref q9, .ref q10, .ref q11, .ref q12, .int 0, .int 0, .int 0, .ref q13, .ref q14, .ref q15, .ref q16, .ref q17, .int 0, .ref q18, .ref q19, .int 0, .ref q20, .ref q21, .int 0, .ref q22, .ref q23, .int 0, .long 0, .ref q24, .int 0, .ref q25, .ref q26, .ref q27, .int 0])), (q1, .inl (X.2.1 0, 400, .inl (fun _ => 0))), (q2, .inl (X.2.1 0, 48, .inl (fun _ => 0))), (q3, .inl (X.2.1 0, 8, .inl (fun _ => 0))), (q4, .inl (X.2.1 0, 8, .inl (fun _ => 0))), (q5, .inl (X.2.1 2, 8, .inr (.inl (fun _ => 0)))), (q6, .inl (X.2.1 0, 180, .inl (fun _ => 0))), (q7, .inl (X.2.1 0, 5, .inl (fun _ => 0))), (q8, .inl (X.2.1 0, 231, .inl (fun _ => 0))), (q9, .inl (X.2.1 0, 2, .inl (fun _ => 0))), (q10, .inl (X.2.1 0, 8, .inl (fun _ => 0))), (q11, .inl (X.2.1 0, 8, .inl (fun _ => 0))), (q12, .inl (X.2.1 2, 8, .inr (.inl (fun _ => 0)))), (q13, .inl (X.2.1 0, 48, .inl (fun _ => 0))), (q14, .inl (X.2.1 0, 48, .inl (fun _ => 0))), (q15, .inl (X.2.1 0, 48, .inl (fun _ => 0))), (q16, .inl (X.2.1 0, 48, .inl (fun _ => 0))), (q17, .inl (X.2.1 0, 48, .inl (fun _ => 0))), (q18, .inl (X.2.1 0, 48, .inl (fun _ => 0))), (q19, .inl (X.2.1 0, 48, .inl (fun _ => 0))), (q20, .inl (X.2.1 0, 48, .inl (fun _ => 0))), (q21, .inl (X.2.1 0, 8, .inl (fun _ => 0))), (q22, .inl (X.2.1 0, 48, .inl (fun _ => 0))), (q23, .inl (X.2.1 0, 9240, .inl (fun _ => 0))), (q24, .inl (X.2.1 0, 231, .inl (fun _ => 0))), (q25, .inl (X.2.1 0, 50, .inl (fun _ => 0))), (q26, .inl (X.2.1 0, 48, .inl (fun _ => 0))), (q27, .inl (X.2.1 0, 40, .inl (fun _ => 0)))] H locs := hw
  exact n_ret (Fin := Fin11) C (fun n => match n with | 0 => q1 | 1 => q2 | 2 => q3 | 3 => q4 | 4 => q5 | 5 => q6 | 6 => q7 | 7 => q8 | 8 => q9 | 9 => q10 | 10 => q11 | 11 => q12 | 12 => q13 | 13 => q14 | 14 => q15 | 15 => q16 | 16 => q17 | 17 => q18 | 18 => q19 | 19 => q20 | 20 => q21 | 21 => q22 | 22 => q23 | 23 => q24 | 24 => q25 | 25 => q26 | 26 => q27 | _ => 0) hw dX11_init_223
def Fin6 (X : XT) (a : Nat) (u : Nat → Nat) : va_W := (a, .inr (6, [.ref (u 0), .int 0, .int 0, .int 0, .int 0, .int 0, .int 0, .int 0])) :: Fin9 X (u 0) (fun i => u (i + 1))
abbrev rmX6_init : Room := { frames := 2, cells := 2, slots := 402, locals := 32 }
theorem hd_X6_init : yX6_init.cls ≠ "java/lang/invoke/MethodHandle" ∧ yX6_init.cls ≠ "java/lang/invoke/VarHandle" ∧ (parseMethodDescriptor yX6_init.desc).map (fun d => d.parameters.length) = some 0 := by decide +kernel
set_option maxRecDepth 100000 in
set_option maxHeartbeats 4000000 in
theorem k_X6 (l : Launch) (X : XT) : NC l X yX6_init cX6_init 1 rmX6_init 6 [.null, .int 0, .int 0, .int 0, .int 0, .int 0, .int 0, .int 0] Fin6 2 402 := by
  refine met_N (own := RX6) (by decide) rfl rfl (by decide) (fun p e s m args below meth c a C ls hw hl => ?_)
  refine lv_aload_n C.1.1 C.1.2.1 dX6_init_0 rfl (lv_at hl 0 rfl) ?_
  refine n_obj C tw1_36 tw1_29 tw1_30 hl.1 dX6_init_1 (Nat.le_of_ble_eq_true rfl) (Nat.le_of_ble_eq_true rfl) ?_
  refine lv_aload_n C.1.1 C.1.2.1 dX6_init_4 rfl (lv_at hl 0 rfl) ?_
  refine n_new C hw cO9 (fs := [.null, .int 0]) (fun j hj => by rcases (show j = 0 ∨ j = 1 by omega) with rfl | rfl <;> rfl) tw1_37 tw1_38 tw1_3 (Nat.le_of_ble_eq_true rfl) (Nat.le_of_ble_eq_true rfl) dX6_init_5 (fun q1 H hw => ?_)
  refine W.widen (k := 1) (n := 2) (Nat.le_of_ble_eq_true rfl) (Nat.le_of_ble_eq_true rfl) ?_
  refine lv_dup C.1.1 C.1.2.1 dX6_init_8 rfl ?_
  refine n_callN (V := [(a, .inr (6, [.null, .int 0, .int 0, .int 0, .int 0, .int 0, .int 0, .int 0]))]) (rest := [.ref q1, .ref a]) C hw (k_X9 l X) (fun h => h.1.2.1) tw1_40 tw1_3 tw1_41 hd_X9_init rfl ⟨⟨rfl, rfl⟩, (Nat.le_of_ble_eq_true rfl), (Nat.le_of_ble_eq_true rfl)⟩ hl.1 (Nat.le_of_ble_eq_true rfl) dX6_init_9 (Nat.le_of_ble_eq_true rfl) (Nat.le_of_ble_eq_true rfl) (fun u1 H locs hw => ?_)
  refine W.widen (k := 2) (n := 402) (Nat.le_of_ble_eq_true rfl) (Nat.le_of_ble_eq_true rfl) ?_
  refine n_put (k := 0) C hw 0 rfl cO6 (by decide) tw1_53 rfl rfl rfl (Nat.le_of_ble_eq_true rfl) rfl rfl dX6_init_12 (fun H locs hw => ?_)
  have hw : BW X a s.heap.size s.heap ([(a, .inr (6, [.ref q1, .int 0, .int 0, .int 0, .int 0, .int 0, .int 0, .int 0]))] ++ Fin9 X q1 u1) H locs := hw
  exact n_ret (Fin := Fin6) C (fun n => match n with | 0 => q1 | n + 1 => u1 n) hw dX6_init_15
def curW (X : XT) (u : Nat → Nat) : Nat → va_W
  | 0 => []
  | i + 1 => curW X u i ++ Fin0 X (u (1 + 2 * i)) (fun _ => u (2 + 2 * i))
theorem curW_len (X : XT) (u : Nat → Nat) : ∀ i, (curW X u i).length = 2 * i
  | 0 => rfl
  | i + 1 => by rw [curW, List.length_append, curW_len X u i]; show 2 * i + 2 = 2 * (i + 1); omega
theorem curW_congr (X : XT) (u v : Nat → Nat) : ∀ i, (∀ j, j < 1 + 2 * i → v j = u j) → curW X v i = curW X u i
  | 0, _ => rfl
  | i + 1, h => by rw [curW, curW, curW_congr X u v i (fun j hj => h j (by omega)), h (1 + 2 * i) (by omega), h (2 + 2 * i) (by omega)]
def rowsF (u : Nat → Nat) (i : Nat) : Nat → Option Nat := fun j => if j < i then some (u (1 + 2 * j)) else none
def Fin2 (X : XT) (a : Nat) (u : Nat → Nat) : va_W := [(a, .inr (2, [.int 0, .int 0, .ref (u 0)])), (u 0, .inl (X.2.1 4, 40, .inr (.inr (.inr (.inr (rowsF u 40))))))] ++ curW X u 40
abbrev rmX2_init : Room := { frames := 2, cells := 81, slots := 2080, locals := 32 }
theorem hd_X2_init : yX2_init.cls ≠ "java/lang/invoke/MethodHandle" ∧ yX2_init.cls ≠ "java/lang/invoke/VarHandle" ∧ (parseMethodDescriptor yX2_init.desc).map (fun d => d.parameters.length) = some 0 := by decide +kernel
set_option maxRecDepth 100000 in
set_option maxHeartbeats 4000000 in
theorem k_X2_loop {p : Program} (l : Launch) {e : Env} {s : State} {m : MethodId} {args : Array Value} {below : List Frame} {meth : Method} {c : Code} (X : XT) {a : Nat} (C : CN p s m args meth c cX2_init 2 RX2 X) {Q : State → Prop} (kend : ∀ (u : Nat → Nat) (H : Heap) (locs : List Loc) (ls : Array Slot), BW X a s.heap.size s.heap (Fin2 X a u) H locs → W p l e rmX2_init s m args below meth c H locs 81 2080 Q (F0 m 40 ls [])) : ∀ (d i : Nat), i + d = 40 → ∀ (u : Nat → Nat) (H : Heap) (locs : List Loc) (ls : Array Slot), BW X a s.heap.size s.heap ([(a, .inr (2, [.int 0, .int 0, .ref (u 0)])), (u 0, .inl (X.2.1 4, 40, .inr (.inr (.inr (.inr (rowsF u i))))))] ++ curW X u i) H locs → lv_has ls 2 [(1, .int (iz i)), (0, .ref a)] → W p l e rmX2_init s m args below meth c H locs (1 + 2 * i) (40 + 51 * i) Q (F0 m 15 ls []) := by
  intro d
  induction d with
  | zero =>
    intro i hi u H locs ls hw hl
    have hi : i = 40 := by omega
    subst hi
    refine lv_iload_n C.1.1 C.1.2.1 dX2_init_15 rfl (lv_at hl 0 rfl) ?_
    refine lv_bipush (v := iz 40) C.1.1 C.1.2.1 dX2_init_16 (by decide) ?_
    refine lv_icmp_ge (tgt := 40) C.1.1 C.1.2.1 dX2_init_18 (by decide) (fun _ => ?_) (fun h => absurd (by decide) h)
    exact kend u H locs ls hw
  | succ d ih =>
    intro i hi u H locs ls hw hl
    have hi2 : i < 40 := by omega
    refine lv_iload_n C.1.1 C.1.2.1 dX2_init_15 rfl (lv_at hl 0 rfl) ?_
    refine lv_bipush (v := iz 40) C.1.1 C.1.2.1 dX2_init_16 (by decide) ?_
    refine lv_icmp_ge (tgt := 40) C.1.1 C.1.2.1 dX2_init_18 (by decide) (fun h => absurd ((iz_le (x := 40) (y := i) ⟨by decide, by decide⟩ ⟨by omega, by omega⟩).mp h) (by omega)) (fun _ => ?_)
    refine lv_aload_n C.1.1 C.1.2.1 dX2_init_21 rfl (lv_at hl 1 rfl) ?_
    refine n_get (k := 2) C hw 0 rfl cO2 (by decide) tw1_205 rfl rfl dX2_init_22 ?_
    refine lv_iload_n C.1.1 C.1.2.1 dX2_init_25 rfl (lv_at hl 0 rfl) ?_
    refine n_new C hw cO0 (fs := [.null, .int 0, .int 0]) (fun j hj => by rcases (show j = 0 ∨ j = 1 ∨ j = 2 by omega) with rfl | rfl | rfl <;> rfl) tw1_199 tw1_80 tw1_4 (by show _ ≤ 81; omega) (by show _ ≤ 2080; omega) dX2_init_26 (fun q H hw => ?_)
    refine lv_dup C.1.1 C.1.2.1 dX2_init_29 rfl ?_
    refine n_callN (rest := [.ref q, .int (iz i), .ref (u 0)]) C hw (k_X0 l X) (fun h => h.1.2.2.2.2.2.1) tw1_82 tw1_4 tw1_83 hd_X0_init rfl ⟨⟨rfl, rfl⟩, Nat.le_of_ble_eq_true rfl, Nat.le_of_ble_eq_true rfl⟩ hl.1 (Nat.le_of_ble_eq_true rfl) dX2_init_30 (by show _ ≤ 81; omega) (by show _ ≤ 2080; omega) (fun u1 H locs hw => ?_)
    have hq : (([(a, (Sum.inr (2, [.int 0, .int 0, .ref (u 0)]) : va_E)), (u 0, .inl (X.2.1 4, 40, .inr (.inr (.inr (.inr (rowsF u i))))))] ++ curW X u i) ++ Fin0 X q u1)[2 + 2 * i]? = some (q, .inr (0, [.ref (u1 0), .int 0, .int 0])) := by
      rw [List.getElem?_append_right (by simp [curW_len]; omega)]
      have : 2 + 2 * i - ([(a, (Sum.inr (2, [.int 0, .int 0, .ref (u 0)]) : va_E)), (u 0, .inl (X.2.1 4, 40, .inr (.inr (.inr (.inr (rowsF u i))))))] ++ curW X u i).length = 0 := by simp [curW_len]; omega
      rw [this]; rfl
    refine n_ast C hw 1 4 (2 + 2 * i) 0 rfl rfl hq rfl (iz_vp (by omega) (by omega) (by decide)) dX2_init_33 (fun H locs hw => ?_)
    have hu : ∃ v : Nat → Nat, v = fun j => if j = 1 + 2 * i then q else if j = 2 + 2 * i then u1 0 else u j := ⟨_, rfl⟩
    obtain ⟨v, hv⟩ := hu
    have v0 : v 0 = u 0 := by rw [hv]; show (if 0 = 1 + 2 * i then q else if 0 = 2 + 2 * i then u1 0 else u 0) = u 0; rw [if_neg (by omega), if_neg (by omega)]
    have vs : ∀ j, j < 1 + 2 * i → v j = u j := fun j hj => by rw [hv]; show (if j = 1 + 2 * i then q else if j = 2 + 2 * i then u1 0 else u j) = u j; rw [if_neg (by omega), if_neg (by omega)]
    have v1 : v (1 + 2 * i) = q := by rw [hv]; show (if 1 + 2 * i = 1 + 2 * i then q else if 1 + 2 * i = 2 + 2 * i then u1 0 else u (1 + 2 * i)) = q; rw [if_pos rfl]
    have v2 : v (2 + 2 * i) = u1 0 := by rw [hv]; show (if 2 + 2 * i = 1 + 2 * i then q else if 2 + 2 * i = 2 + 2 * i then u1 0 else u (2 + 2 * i)) = u1 0; rw [if_neg (by omega), if_pos rfl]
    have ef : va_up (rowsF u i) (iz i).toNatClampNeg (some q) = rowsF v (i + 1) := by
      have e1 : (iz (i : Int)).toNatClampNeg = i := by rw [iz_nat (by omega) (by omega)]; omega
      rw [e1]
      funext j
      unfold va_up rowsF
      by_cases h1 : j = i
      · subst h1; rw [if_pos rfl, if_pos (by omega), v1]
      · rw [if_neg h1]
        by_cases h2 : j < i
        · rw [if_pos h2, if_pos (by omega), vs _ (by omega)]
        · rw [if_neg h2, if_neg (by omega)]
    have ew : (([(a, (Sum.inr (2, [.int 0, .int 0, .ref (u 0)]) : va_E)), (u 0, .inl (X.2.1 4, 40, .inr (.inr (.inr (.inr (rowsF u i))))))] ++ curW X u i) ++ Fin0 X q u1).set 1 (u 0, .inl (X.2.1 4, 40, .inr (.inr (.inr (.inr (va_up (rowsF u i) (iz i).toNatClampNeg (some q))))))) = [(a, (Sum.inr (2, [.int 0, .int 0, .ref (v 0)]) : va_E)), (v 0, .inl (X.2.1 4, 40, .inr (.inr (.inr (.inr (rowsF v (i + 1)))))))] ++ curW X v (i + 1) := by
      rw [ef, v0, curW, curW_congr X u v i vs, v1, v2]
      rw [← List.append_assoc]
      rfl
    rw [ew] at hw
    refine lv_iinc (v := iz (i + 1 : Nat)) (lv' := [(1, .int (iz (i + 1 : Nat))), (0, .ref a)]) C.1.1 C.1.2.1 dX2_init_34 hl (k := 0) rfl (by rw [show ((i + 1 : Nat) : Int) = (i : Int) + 1 by omega]; exact iz_add _ _) (by decide) rfl (fun ls hl => ?_)
    refine lv_goto (tgt := 15) C.1.1 C.1.2.1 dX2_init_37 (by decide) ?_
    refine W.widen (k := 1 + 2 * (i + 1)) (n := 40 + 51 * (i + 1)) (by omega) (by omega) ?_
    exact ih (i + 1) (by omega) v H locs ls hw hl
set_option maxRecDepth 100000 in
set_option maxHeartbeats 4000000 in
theorem k_X2 (l : Launch) (X : XT) : NC l X yX2_init cX2_init 2 rmX2_init 2 [.int 0, .int 0, .null] Fin2 81 2080 := by
  refine met_N (own := RX2) (by decide) rfl rfl (by decide) (fun p e s m args below meth c a C ls hw hl => ?_)
  refine lv_aload_n C.1.1 C.1.2.1 dX2_init_0 rfl (lv_at hl 0 rfl) ?_
  refine n_obj C tw1_198 tw1_29 tw1_30 hl.1 dX2_init_1 (Nat.le_of_ble_eq_true rfl) (Nat.le_of_ble_eq_true rfl) ?_
  refine lv_aload_n C.1.1 C.1.2.1 dX2_init_4 rfl (lv_at hl 0 rfl) ?_
  refine lv_bipush (v := 40) C.1.1 C.1.2.1 dX2_init_5 (by decide) ?_
  refine n_newQ (t := 4) (N := 40) C hw rfl tw1_199 C.2.2.2.2.2.2.2 (by decide) (by decide) (Nat.le_of_ble_eq_true rfl) (Nat.le_of_ble_eq_true rfl) (Nat.le_of_ble_eq_true rfl) dX2_init_7 (fun q H hw => ?_)
  refine n_put (k := 2) C hw 0 rfl cO2 (by decide) tw1_205 rfl rfl rfl (Nat.le_of_ble_eq_true rfl) rfl rfl dX2_init_10 (fun H locs hw => ?_)
  refine lv_iconst (v := iz 0) C.1.1 C.1.2.1 dX2_init_13 (by decide) ?_
  refine lv_istore_n (lv' := [(1, .int (iz 0)), (0, .ref a)]) C.1.1 C.1.2.1 dX2_init_14 rfl hl (by decide) rfl (fun ls hl => ?_)
  refine W.widen (k := 1 + 2 * 0) (n := 40 + 51 * 0) (Nat.le_of_ble_eq_true rfl) (Nat.le_of_ble_eq_true rfl) ?_
  refine k_X2_loop l X C (fun u H locs ls hw => n_ret (Fin := Fin2) C u hw dX2_init_40) 40 0 rfl (fun _ => q) H locs ls ?_ hl
  have ef : (fun _ => none : Nat → Option Nat) = rowsF (fun _ => q) 0 := by funext j; unfold rowsF; rw [if_neg (by omega)]
  rw [← ef]
  exact hw
