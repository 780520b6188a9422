def f_X10_end (N : Nat) (S : S2) (a1 : Int) : Option (Int × S2) := cI a1 0 (if a1 < 0 then rZ 0 S else gI S 2 1 fun v9 => cI a1 v9 (if a1 ≤ v9 then uI S 2 1 a1 fun S22 => rZ 1 S22 else rZ 0 S))
abbrev rmX10_end : Room := { frames := 0, cells := 0, slots := 0, locals := 0 }
theorem hd_X10_end : yX10_end.cls ≠ "java/lang/invoke/MethodHandle" ∧ yX10_end.cls ≠ "java/lang/invoke/VarHandle" ∧ (parseMethodDescriptor yX10_end.desc).map (fun d => d.parameters.length) = some 1 := by decide +kernel
set_option maxRecDepth 100000 in
set_option maxHeartbeats 4000000 in
theorem c_X10_end (l : Launch) (X : XT) (hinj : XInj X nC) (hZ : ZOK (Zc X)) (N : Nat) (S : S2) (a1 : Int) (out : Int × S2) (hf : f_X10_end N S a1 = some out) : MI l X shC nC (Zc X) yX10_end cX10_end 2 (some .boolean) rmX10_end [.ref (X.2.2 0), .int (iz a1)] S out := by
  refine met_I (own := RX10) (by decide) rfl hinj hZ (Nat.le_of_ble_eq_true rfl) (fun p e s m args below meth c C ls H locs hw hl => ?_)
  unfold f_X10_end at hf
  have hl : lv_has ls 2 [(0, .ref (X.2.2 0)), (1, .int (iz a1))] := hl
  refine lv_iload_n C.1.1 C.1.2.1 dX10_end_0 rfl (lv_at hl 1 rfl) ?_
  refine r_if_lt C (tgt := 15) dX10_end_1 (by decide) hf (fun hf => ?_) (fun hf => ?_)
  · refine r_iconst (v := 0) C dX10_end_15 ?_
    exact r_retZ C hw dX10_end_16 hf
  · refine lv_iload_n C.1.1 C.1.2.1 dX10_end_4 rfl (lv_at hl 1 rfl) ?_
    refine lv_aload_n C.1.1 C.1.2.1 dX10_end_5 rfl (lv_at hl 0 rfl) ?_
    refine r_getR (k := 1) C hw shC_0 ltC_0 cO10 rfl (by decide) tw2_47 rfl dX10_end_6 ?_
    refine r_getI (k := 1) C hw (is9_s is9_at2) (is9_l is9_at2) cO9 rfl (by decide) tw1_45 rfl dX10_end_9 hf (fun v9 hf => ?_)
    refine r_icmp_le C (tgt := 17) dX10_end_12 (by decide) hf (fun hf => ?_) (fun hf => ?_)
    · refine lv_aload_n C.1.1 C.1.2.1 dX10_end_17 rfl (lv_at hl 0 rfl) ?_
      refine r_getR (k := 1) C hw shC_0 ltC_0 cO10 rfl (by decide) tw2_47 rfl dX10_end_18 ?_
      refine lv_iload_n C.1.1 C.1.2.1 dX10_end_21 rfl (lv_at hl 1 rfl) ?_
      refine r_putI (k := 1) C hw (is9_s is9_at2) (is9_l is9_at2) cO9 rfl (by decide) tw1_45 rfl rfl rfl dX10_end_22 hf (fun S22 H locs hf hw => ?_)
      refine r_iconst (v := 1) C dX10_end_25 ?_
      exact r_retZ C hw dX10_end_26 hf
    · refine r_iconst (v := 0) C dX10_end_15 ?_
      exact r_retZ C hw dX10_end_16 hf
def f_X10_bytesIn_22 (k5 : Int → Int → Int → S2 → Option (Int × S2)) (N : Nat) (x0 : Int) (x1 : Int) (x2 : Int) (S : S2) : Option (Int × S2) := k5 x0 x1 (x2 + (-8)) S
def f_X10_bytesIn_5 : Nat → Int → Int → Int → S2 → Option (Int × S2)
  | 0, _, _, _, _ => none
  | N + 1, x0, x1, x2, S => cI x2 0 (if x2 < 0 then rI x1 S else cI (bz (iz (bz ((iz x0).toUInt32 >>> ((iz x2).toUInt32 &&& Int32.toUInt32 31)).toInt32) &&& iz 255)) 0 (if (bz (iz (bz ((iz x0).toUInt32 >>> ((iz x2).toUInt32 &&& Int32.toUInt32 31)).toInt32) &&& iz 255)) = 0 then (f_X10_bytesIn_22 (f_X10_bytesIn_5 N) N) x0 x1 x2 S else (f_X10_bytesIn_22 (f_X10_bytesIn_5 N) N) x0 (x1 + 1) x2 S))
def f_X10_bytesIn (N : Nat) (S : S2) (a0 : Int) : Option (Int × S2) := (f_X10_bytesIn_5 N) a0 0 24 S
abbrev rmX10_bytesIn : Room := { frames := 0, cells := 0, slots := 0, locals := 0 }
theorem hd_X10_bytesIn : yX10_bytesIn.cls ≠ "java/lang/invoke/MethodHandle" ∧ yX10_bytesIn.cls ≠ "java/lang/invoke/VarHandle" ∧ (parseMethodDescriptor yX10_bytesIn.desc).map (fun d => d.parameters.length) = some 1 := by decide +kernel
set_option maxRecDepth 100000 in
set_option maxHeartbeats 4000000 in
theorem w_X10_bytesIn_22 {p : Program} (l : Launch) {e : Env} {s : State} {m : MethodId} {args : Array Value} {below : List Frame} {meth : Method} {c : Code} {X : XT} (hinj : XInj X nC) (hZ : ZOK (Zc X)) (C : CX p s m args meth c cX10_bytesIn 3 RX10 (some .int) X nC (Zc X)) (out : Int × S2) (k5 : Int → Int → Int → S2 → Option (Int × S2)) (hk5 : ∀ (x0 : Int) (x1 : Int) (x2 : Int) (S : S2) (H : Heap) (locs : List Loc) (ls : Array Slot), k5 x0 x1 x2 S = some out → WH X shC nC s S H locs → lv_has ls 3 [(0, .int (iz x0)), (1, .int (iz x1)), (2, .int (iz x2))] → W p l e rmX10_bytesIn s m args below meth c H locs 0 0 (QI X shC nC s args below out) (F0 m 5 ls [])) : ∀ (N : Nat), ∀ (x0 : Int) (x1 : Int) (x2 : Int) (S : S2) (H : Heap) (locs : List Loc) (ls : Array Slot), f_X10_bytesIn_22 k5 N x0 x1 x2 S = some out → WH X shC nC s S H locs → lv_has ls 3 [(0, .int (iz x0)), (1, .int (iz x1)), (2, .int (iz x2))] → W p l e rmX10_bytesIn s m args below meth c H locs 0 0 (QI X shC nC s args below out) (F0 m 22 ls []) := by
  intro N x0 x1 x2 S H locs ls hf hw hl
  unfold f_X10_bytesIn_22 at hf
  refine lv_iinc (v := iz (x2 + (-8))) (lv' := [(2, .int (iz (x2 + (-8)))), (0, .int (iz x0)), (1, .int (iz x1))]) C.1.1 C.1.2.1 dX10_bytesIn_22 hl (k := 2) rfl (iz_add _ _) (by decide) rfl (fun ls hl => ?_)
  refine lv_goto (tgt := 5) C.1.1 C.1.2.1 dX10_bytesIn_25 (by decide) ?_
  exact hk5 x0 x1 (x2 + (-8)) S H locs ls hf hw (lv_sub hl [1, 2, 0] rfl)
set_option maxRecDepth 100000 in
set_option maxHeartbeats 4000000 in
theorem w_X10_bytesIn_5 {p : Program} (l : Launch) {e : Env} {s : State} {m : MethodId} {args : Array Value} {below : List Frame} {meth : Method} {c : Code} {X : XT} (hinj : XInj X nC) (hZ : ZOK (Zc X)) (C : CX p s m args meth c cX10_bytesIn 3 RX10 (some .int) X nC (Zc X)) (out : Int × S2) : ∀ (N : Nat), ∀ (x0 : Int) (x1 : Int) (x2 : Int) (S : S2) (H : Heap) (locs : List Loc) (ls : Array Slot), f_X10_bytesIn_5 N x0 x1 x2 S = some out → WH X shC nC s S H locs → lv_has ls 3 [(0, .int (iz x0)), (1, .int (iz x1)), (2, .int (iz x2))] → W p l e rmX10_bytesIn s m args below meth c H locs 0 0 (QI X shC nC s args below out) (F0 m 5 ls []) := by
  intro N
  induction N with
  | zero => intro x0 x1 x2 S H locs ls hf hw hl; cases hf
  | succ N ih =>
    intro x0 x1 x2 S H locs ls hf hw hl
    rw [f_X10_bytesIn_5.eq_2] at hf
    refine lv_iload_n C.1.1 C.1.2.1 dX10_bytesIn_5 rfl (lv_at hl 2 rfl) ?_
    refine r_if_lt C (tgt := 28) dX10_bytesIn_6 (by decide) hf (fun hf => ?_) (fun hf => ?_)
    · refine lv_iload_n C.1.1 C.1.2.1 dX10_bytesIn_28 rfl (lv_at hl 1 rfl) ?_
      exact r_retI C hw dX10_bytesIn_29 hf
    · refine lv_iload_n C.1.1 C.1.2.1 dX10_bytesIn_9 rfl (lv_at hl 0 rfl) ?_
      refine lv_iload_n C.1.1 C.1.2.1 dX10_bytesIn_10 rfl (lv_at hl 2 rfl) ?_
      refine r_iushr C dX10_bytesIn_11 ?_
      refine r_sipush (v := 255) C dX10_bytesIn_12 (by decide) ?_
      refine r_iand C dX10_bytesIn_15 ?_
      refine r_if_eq C (tgt := 22) dX10_bytesIn_16 (by decide) hf (fun hf => ?_) (fun hf => ?_)
      · exact (w_X10_bytesIn_22 l hinj hZ C out (f_X10_bytesIn_5 N) ih N) x0 x1 x2 S H locs ls hf hw (lv_sub hl [0, 1, 2] rfl)
      · refine lv_iinc (v := iz (x1 + 1)) (lv' := [(1, .int (iz (x1 + 1))), (0, .int (iz x0)), (2, .int (iz x2))]) C.1.1 C.1.2.1 dX10_bytesIn_19 hl (k := 1) rfl (iz_add _ _) (by decide) rfl (fun ls hl => ?_)
        exact (w_X10_bytesIn_22 l hinj hZ C out (f_X10_bytesIn_5 N) ih N) x0 (x1 + 1) x2 S H locs ls hf hw (lv_sub hl [1, 0, 2] rfl)
set_option maxRecDepth 100000 in
set_option maxHeartbeats 4000000 in
theorem c_X10_bytesIn (l : Launch) (X : XT) (hinj : XInj X nC) (hZ : ZOK (Zc X)) (N : Nat) (S : S2) (a0 : Int) (out : Int × S2) (hf : f_X10_bytesIn N S a0 = some out) : MI l X shC nC (Zc X) yX10_bytesIn cX10_bytesIn 3 (some .int) rmX10_bytesIn [.int (iz a0)] S out := by
  refine met_I (own := RX10) (by decide) rfl hinj hZ (Nat.le_of_ble_eq_true rfl) (fun p e s m args below meth c C ls H locs hw hl => ?_)
  unfold f_X10_bytesIn at hf
  have hl : lv_has ls 3 [(0, .int (iz a0))] := hl
  refine r_iconst (v := 0) C dX10_bytesIn_0 ?_
  refine lv_istore_n (lv' := [(1, .int (iz 0)), (0, .int (iz a0))]) C.1.1 C.1.2.1 dX10_bytesIn_1 rfl hl (by decide) rfl (fun ls hl => ?_)
  refine r_bipush (v := 24) C dX10_bytesIn_2 (by decide) ?_
  refine lv_istore_n (lv' := [(2, .int (iz 24)), (1, .int (iz 0)), (0, .int (iz a0))]) C.1.1 C.1.2.1 dX10_bytesIn_4 rfl hl (by decide) rfl (fun ls hl => ?_)
  exact (w_X10_bytesIn_5 l hinj hZ C out N) a0 0 24 S H locs ls hf hw (lv_sub hl [2, 1, 0] rfl)
def f_X10_noTrace (N : Nat) (S : S2) : Option (Int × S2) := gI S 4 1 fun v4 => cI v4 0 (if v4 = 0 then rZ 1 S else rZ 0 S)
abbrev rmX10_noTrace : Room := { frames := 0, cells := 0, slots := 0, locals := 0 }
theorem hd_X10_noTrace : yX10_noTrace.cls ≠ "java/lang/invoke/MethodHandle" ∧ yX10_noTrace.cls ≠ "java/lang/invoke/VarHandle" ∧ (parseMethodDescriptor yX10_noTrace.desc).map (fun d => d.parameters.length) = some 0 := by decide +kernel
set_option maxRecDepth 100000 in
set_option maxHeartbeats 4000000 in
theorem c_X10_noTrace (l : Launch) (X : XT) (hinj : XInj X nC) (hZ : ZOK (Zc X)) (N : Nat) (S : S2) (out : Int × S2) (hf : f_X10_noTrace N S = some out) : MI l X shC nC (Zc X) yX10_noTrace cX10_noTrace 1 (some .boolean) rmX10_noTrace [.ref (X.2.2 0)] S out := by
  refine met_I (own := RX10) (by decide) rfl hinj hZ (Nat.le_of_ble_eq_true rfl) (fun p e s m args below meth c C ls H locs hw hl => ?_)
  unfold f_X10_noTrace at hf
  have hl : lv_has ls 1 [(0, .ref (X.2.2 0))] := hl
  refine lv_aload_n C.1.1 C.1.2.1 dX10_noTrace_0 rfl (lv_at hl 0 rfl) ?_
  refine r_getR (k := 2) C hw shC_0 ltC_0 cO10 rfl (by decide) tw2_48 rfl dX10_noTrace_1 ?_
  refine r_getI (k := 1) C hw (is0_s is0_at4) (is0_l is0_at4) cO0 rfl (by decide) tw1_92 rfl dX10_noTrace_4 hf (fun v4 hf => ?_)
  refine r_if_ne C (tgt := 14) dX10_noTrace_7 (by decide) hf (fun hf => ?_) (fun hf => ?_)
  · refine r_iconst (v := 0) C dX10_noTrace_14 ?_
    exact r_retZ C hw dX10_noTrace_15 hf
  · refine r_iconst (v := 1) C dX10_noTrace_10 ?_
    refine lv_goto (tgt := 15) C.1.1 C.1.2.1 dX10_noTrace_11 (by decide) ?_
    exact r_retZ C hw dX10_noTrace_15 hf
def f_X10_isKept (N : Nat) (S : S2) (a1 : Int) : Option (Int × S2) := cI a1 0 (if a1 < 0 then rZ 0 S else gI S 6 1 fun v9 => cI a1 v9 (if v9 ≤ a1 then rZ 0 S else rZ 1 S))
abbrev rmX10_isKept : Room := { frames := 0, cells := 0, slots := 0, locals := 0 }
theorem hd_X10_isKept : yX10_isKept.cls ≠ "java/lang/invoke/MethodHandle" ∧ yX10_isKept.cls ≠ "java/lang/invoke/VarHandle" ∧ (parseMethodDescriptor yX10_isKept.desc).map (fun d => d.parameters.length) = some 1 := by decide +kernel
set_option maxRecDepth 100000 in
set_option maxHeartbeats 4000000 in
theorem c_X10_isKept (l : Launch) (X : XT) (hinj : XInj X nC) (hZ : ZOK (Zc X)) (N : Nat) (S : S2) (a1 : Int) (out : Int × S2) (hf : f_X10_isKept N S a1 = some out) : MI l X shC nC (Zc X) yX10_isKept cX10_isKept 2 (some .boolean) rmX10_isKept [.ref (X.2.2 0), .int (iz a1)] S out := by
  refine met_I (own := RX10) (by decide) rfl hinj hZ (Nat.le_of_ble_eq_true rfl) (fun p e s m args below meth c C ls H locs hw hl => ?_)
  unfold f_X10_isKept at hf
  have hl : lv_has ls 2 [(0, .ref (X.2.2 0)), (1, .int (iz a1))] := hl
  refine lv_iload_n C.1.1 C.1.2.1 dX10_isKept_0 rfl (lv_at hl 1 rfl) ?_
  refine r_if_lt C (tgt := 19) dX10_isKept_1 (by decide) hf (fun hf => ?_) (fun hf => ?_)
  · refine r_iconst (v := 0) C dX10_isKept_19 ?_
    exact r_retZ C hw dX10_isKept_20 hf
  · refine lv_iload_n C.1.1 C.1.2.1 dX10_isKept_4 rfl (lv_at hl 1 rfl) ?_
    refine lv_aload_n C.1.1 C.1.2.1 dX10_isKept_5 rfl (lv_at hl 0 rfl) ?_
    refine r_getR (k := 3) C hw shC_0 ltC_0 cO10 rfl (by decide) tw2_49 rfl dX10_isKept_6 ?_
    refine r_getI (k := 1) C hw (is5_s is5_at6) (is5_l is5_at6) cO5 rfl (by decide) tw1_115 rfl dX10_isKept_9 hf (fun v9 hf => ?_)
    refine r_icmp_ge C (tgt := 19) dX10_isKept_12 (by decide) hf (fun hf => ?_) (fun hf => ?_)
    · refine r_iconst (v := 0) C dX10_isKept_19 ?_
      exact r_retZ C hw dX10_isKept_20 hf
    · refine r_iconst (v := 1) C dX10_isKept_15 ?_
      refine lv_goto (tgt := 20) C.1.1 C.1.2.1 dX10_isKept_16 (by decide) ?_
      exact r_retZ C hw dX10_isKept_20 hf
def f_X10_status (N : Nat) (S : S2) (a1 : Int) : Option (Int × S2) := cI a1 0 (if a1 = 0 then gI S 0 9 fun v5 => rI v5 S else cI a1 1 (if a1 = 1 then gI S 0 10 fun v15 => rI v15 S else rI (-1) S))
abbrev rmX10_status : Room := { frames := 0, cells := 0, slots := 0, locals := 0 }
theorem hd_X10_status : yX10_status.cls ≠ "java/lang/invoke/MethodHandle" ∧ yX10_status.cls ≠ "java/lang/invoke/VarHandle" ∧ (parseMethodDescriptor yX10_status.desc).map (fun d => d.parameters.length) = some 1 := by decide +kernel
set_option maxRecDepth 100000 in
set_option maxHeartbeats 4000000 in
theorem c_X10_status (l : Launch) (X : XT) (hinj : XInj X nC) (hZ : ZOK (Zc X)) (N : Nat) (S : S2) (a1 : Int) (out : Int × S2) (hf : f_X10_status N S a1 = some out) : MI l X shC nC (Zc X) yX10_status cX10_status 2 (some .int) rmX10_status [.ref (X.2.2 0), .int (iz a1)] S out := by
  refine met_I (own := RX10) (by decide) rfl hinj hZ (Nat.le_of_ble_eq_true rfl) (fun p e s m args below meth c C ls H locs hw hl => ?_)
  unfold f_X10_status at hf
  have hl : lv_has ls 2 [(0, .ref (X.2.2 0)), (1, .int (iz a1))] := hl
  refine lv_iload_n C.1.1 C.1.2.1 dX10_status_0 rfl (lv_at hl 1 rfl) ?_
  refine r_if_ne C (tgt := 9) dX10_status_1 (by decide) hf (fun hf => ?_) (fun hf => ?_)
  · refine lv_iload_n C.1.1 C.1.2.1 dX10_status_9 rfl (lv_at hl 1 rfl) ?_
    refine r_iconst (v := 1) C dX10_status_10 ?_
    refine r_icmp_ne C (tgt := 21) dX10_status_11 (by decide) hf (fun hf => ?_) (fun hf => ?_)
    · refine r_iconst (v := (-1)) C dX10_status_21 ?_
      exact r_retI C hw dX10_status_22 hf
    · refine lv_aload_n C.1.1 C.1.2.1 dX10_status_14 rfl (lv_at hl 0 rfl) ?_
      refine r_getI (k := 10) C hw shC_0 ltC_0 cO10 rfl (by decide) tw2_56 rfl dX10_status_15 hf (fun v15 hf => ?_)
      refine lv_goto (tgt := 22) C.1.1 C.1.2.1 dX10_status_18 (by decide) ?_
      exact r_retI C hw dX10_status_22 hf
  · refine lv_aload_n C.1.1 C.1.2.1 dX10_status_4 rfl (lv_at hl 0 rfl) ?_
    refine r_getI (k := 9) C hw shC_0 ltC_0 cO10 rfl (by decide) tw2_55 rfl dX10_status_5 hf (fun v5 hf => ?_)
    exact r_retI C hw dX10_status_8 hf
def f_X10_pieces_72 (k27 : Int → Int → Int → Int → S2 → Option (Int × S2)) (N : Nat) (x1 : Int) (x2 : Int) (x4 : Int) (x5 : Int) (S : S2) : Option (Int × S2) := k27 x1 x2 x5 (x4 + 1) S
def f_X10_pieces_58 (k27 : Int → Int → Int → Int → S2 → Option (Int × S2)) (N : Nat) (x1 : Int) (x2 : Int) (x3 : Int) (x4 : Int) (y0 : Int) (S : S2) : Option (Int × S2) := cI y0 0 (if y0 = 0 then (f_X10_pieces_72 k27 N) x1 x2 x4 y0 S else cI x3 0 (if x3 = 0 then (f_X10_pieces_72 k27 N) x1 (x2 + 1) x4 y0 S else (f_X10_pieces_72 k27 N) x1 x2 x4 y0 S))
def f_X10_pieces_27 : Nat → Int → Int → Int → Int → S2 → Option (Int × S2)
  | 0, _, _, _, _, _ => none
  | N + 1, x1, x2, x3, x4, S => gI S 4 1 fun v33 => cI x4 v33 (if v33 ≤ x4 then rI x2 S else aI S (4 + 1) 48 x4 fun v48 => cI v48 x1 (if v48 < x1 then (f_X10_pieces_58 (f_X10_pieces_27 N) N) x1 x2 x3 x4 0 S else (f_X10_pieces_58 (f_X10_pieces_27 N) N) x1 x2 x3 x4 1 S))
def f_X10_pieces (N : Nat) (S : S2) (a1 : Int) : Option (Int × S2) := bI (f_X10_noTrace N S) fun v1 S1 => cI v1 0 (if v1 = 0 then cI a1 0 (if a1 < 0 then rI (-1) S1 else cI a1 999 (if a1 ≤ 999 then (f_X10_pieces_27 N) a1 0 0 0 S1 else rI (-1) S1)) else rI (-1) S1)
abbrev rmX10_pieces : Room := { frames := 1, cells := 0, slots := 0, locals := 20 }
theorem hd_X10_pieces : yX10_pieces.cls ≠ "java/lang/invoke/MethodHandle" ∧ yX10_pieces.cls ≠ "java/lang/invoke/VarHandle" ∧ (parseMethodDescriptor yX10_pieces.desc).map (fun d => d.parameters.length) = some 1 := by decide +kernel
set_option maxRecDepth 100000 in
set_option maxHeartbeats 4000000 in
theorem w_X10_pieces_72 {p : Program} (l : Launch) {e : Env} {s : State} {m : MethodId} {args : Array Value} {below : List Frame} {meth : Method} {c : Code} {X : XT} (hinj : XInj X nC) (hZ : ZOK (Zc X)) (C : CX p s m args meth c cX10_pieces 6 RX10 (some .int) X nC (Zc X)) (out : Int × S2) (k27 : Int → Int → Int → Int → S2 → Option (Int × S2)) (hk27 : ∀ (x1 : Int) (x2 : Int) (x3 : Int) (x4 : Int) (S : S2) (H : Heap) (locs : List Loc) (ls : Array Slot), k27 x1 x2 x3 x4 S = some out → WH X shC nC s S H locs → lv_has ls 6 [(0, .ref (X.2.2 0)), (1, .int (iz x1)), (2, .int (iz x2)), (3, .int (iz x3)), (4, .int (iz x4))] → W p l e rmX10_pieces s m args below meth c H locs 0 0 (QI X shC nC s args below out) (F0 m 27 ls [])) : ∀ (N : Nat), ∀ (x1 : Int) (x2 : Int) (x4 : Int) (x5 : Int) (S : S2) (H : Heap) (locs : List Loc) (ls : Array Slot), f_X10_pieces_72 k27 N x1 x2 x4 x5 S = some out → WH X shC nC s S H locs → lv_has ls 6 [(0, .ref (X.2.2 0)), (1, .int (iz x1)), (2, .int (iz x2)), (4, .int (iz x4)), (5, .int (iz x5))] → W p l e rmX10_pieces s m args below meth c H locs 0 0 (QI X shC nC s args below out) (F0 m 72 ls []) := by
  intro N x1 x2 x4 x5 S H locs ls hf hw hl
  unfold f_X10_pieces_72 at hf
  refine lv_iload C.1.1 C.1.2.1 dX10_pieces_72 (lv_at hl 4 rfl) ?_
  refine lv_istore_n (lv' := [(3, .int (iz x5)), (0, .ref (X.2.2 0)), (1, .int (iz x1)), (2, .int (iz x2)), (4, .int (iz x4)), (5, .int (iz x5))]) C.1.1 C.1.2.1 dX10_pieces_74 rfl hl (by decide) rfl (fun ls hl => ?_)
  refine lv_iinc (v := iz (x4 + 1)) (lv' := [(4, .int (iz (x4 + 1))), (3, .int (iz x5)), (0, .ref (X.2.2 0)), (1, .int (iz x1)), (2, .int (iz x2)), (5, .int (iz x5))]) C.1.1 C.1.2.1 dX10_pieces_75 hl (k := 4) rfl (iz_add _ _) (by decide) rfl (fun ls hl => ?_)
  refine lv_goto (tgt := 27) C.1.1 C.1.2.1 dX10_pieces_78 (by decide) ?_
  exact hk27 x1 x2 x5 (x4 + 1) S H locs ls hf hw (lv_sub hl [2, 3, 4, 1, 0] rfl)
set_option maxRecDepth 100000 in
set_option maxHeartbeats 4000000 in
theorem w_X10_pieces_58 {p : Program} (l : Launch) {e : Env} {s : State} {m : MethodId} {args : Array Value} {below : List Frame} {meth : Method} {c : Code} {X : XT} (hinj : XInj X nC) (hZ : ZOK (Zc X)) (C : CX p s m args meth c cX10_pieces 6 RX10 (some .int) X nC (Zc X)) (out : Int × S2) (k27 : Int → Int → Int → Int → S2 → Option (Int × S2)) (hk27 : ∀ (x1 : Int) (x2 : Int) (x3 : Int) (x4 : Int) (S : S2) (H : Heap) (locs : List Loc) (ls : Array Slot), k27 x1 x2 x3 x4 S = some out → WH X shC nC s S H locs → lv_has ls 6 [(0, .ref (X.2.2 0)), (1, .int (iz x1)), (2, .int (iz x2)), (3, .int (iz x3)), (4, .int (iz x4))] → W p l e rmX10_pieces s m args below meth c H locs 0 0 (QI X shC nC s args below out) (F0 m 27 ls [])) : ∀ (N : Nat), ∀ (x1 : Int) (x2 : Int) (x3 : Int) (x4 : Int) (y0 : Int) (S : S2) (H : Heap) (locs : List Loc) (ls : Array Slot), f_X10_pieces_58 k27 N x1 x2 x3 x4 y0 S = some out → WH X shC nC s S H locs → lv_has ls 6 [(0, .ref (X.2.2 0)), (1, .int (iz x1)), (2, .int (iz x2)), (3, .int (iz x3)), (4, .int (iz x4))] → W p l e rmX10_pieces s m args below meth c H locs 0 0 (QI X shC nC s args below out) (F0 m 58 ls [.int (iz y0)]) := by
  intro N x1 x2 x3 x4 y0 S H locs ls hf hw hl
  unfold f_X10_pieces_58 at hf
  refine lv_istore (lv' := [(5, .int (iz y0)), (0, .ref (X.2.2 0)), (1, .int (iz x1)), (2, .int (iz x2)), (3, .int (iz x3)), (4, .int (iz x4))]) C.1.1 C.1.2.1 dX10_pieces_58 hl (by decide) rfl (fun ls hl => ?_)
  refine lv_iload C.1.1 C.1.2.1 dX10_pieces_60 (lv_at hl 0 rfl) ?_
  refine r_if_eq C (tgt := 72) dX10_pieces_62 (by decide) hf (fun hf => ?_) (fun hf => ?_)
  · exact (w_X10_pieces_72 l hinj hZ C out k27 hk27 N) x1 x2 x4 y0 S H locs ls hf hw (lv_sub hl [1, 2, 3, 5, 0] rfl)
  · refine lv_iload_n C.1.1 C.1.2.1 dX10_pieces_65 rfl (lv_at hl 4 rfl) ?_
    refine r_if_ne C (tgt := 72) dX10_pieces_66 (by decide) hf (fun hf => ?_) (fun hf => ?_)
    · exact (w_X10_pieces_72 l hinj hZ C out k27 hk27 N) x1 x2 x4 y0 S H locs ls hf hw (lv_sub hl [1, 2, 3, 5, 0] rfl)
    · refine lv_iinc (v := iz (x2 + 1)) (lv' := [(2, .int (iz (x2 + 1))), (5, .int (iz y0)), (0, .ref (X.2.2 0)), (1, .int (iz x1)), (3, .int (iz x3)), (4, .int (iz x4))]) C.1.1 C.1.2.1 dX10_pieces_69 hl (k := 3) rfl (iz_add _ _) (by decide) rfl (fun ls hl => ?_)
      exact (w_X10_pieces_72 l hinj hZ C out k27 hk27 N) x1 (x2 + 1) x4 y0 S H locs ls hf hw (lv_sub hl [2, 3, 0, 5, 1] rfl)
set_option maxRecDepth 100000 in
set_option maxHeartbeats 4000000 in
theorem w_X10_pieces_27 {p : Program} (l : Launch) {e : Env} {s : State} {m : MethodId} {args : Array Value} {below : List Frame} {meth : Method} {c : Code} {X : XT} (hinj : XInj X nC) (hZ : ZOK (Zc X)) (C : CX p s m args meth c cX10_pieces 6 RX10 (some .int) X nC (Zc X)) (out : Int × S2) : ∀ (N : Nat), ∀ (x1 : Int) (x2 : Int) (x3 : Int) (x4 : Int) (S : S2) (H : Heap) (locs : List Loc) (ls : Array Slot), f_X10_pieces_27 N x1 x2 x3 x4 S = some out → WH X shC nC s S H locs → lv_has ls 6 [(0, .ref (X.2.2 0)), (1, .int (iz x1)), (2, .int (iz x2)), (3, .int (iz x3)), (4, .int (iz x4))] → W p l e rmX10_pieces s m args below meth c H locs 0 0 (QI X shC nC s args below out) (F0 m 27 ls []) := by
  intro N
  induction N with
  | zero => intro x1 x2 x3 x4 S H locs ls hf hw hl; cases hf
  | succ N ih =>
    intro x1 x2 x3 x4 S H locs ls hf hw hl
    rw [f_X10_pieces_27.eq_2] at hf
    refine lv_iload C.1.1 C.1.2.1 dX10_pieces_27 (lv_at hl 4 rfl) ?_
    refine lv_aload_n C.1.1 C.1.2.1 dX10_pieces_29 rfl (lv_at hl 0 rfl) ?_
    refine r_getR (k := 2) C hw shC_0 ltC_0 cO10 rfl (by decide) tw2_48 rfl dX10_pieces_30 ?_
    refine r_getI (k := 1) C hw (is0_s is0_at4) (is0_l is0_at4) cO0 rfl (by decide) tw1_92 rfl dX10_pieces_33 hf (fun v33 hf => ?_)
    refine r_icmp_ge C (tgt := 81) dX10_pieces_36 (by decide) hf (fun hf => ?_) (fun hf => ?_)
    · refine lv_iload_n C.1.1 C.1.2.1 dX10_pieces_81 rfl (lv_at hl 2 rfl) ?_
      exact r_retI C hw dX10_pieces_82 hf
    · refine lv_aload_n C.1.1 C.1.2.1 dX10_pieces_39 rfl (lv_at hl 0 rfl) ?_
      refine r_getR (k := 2) C hw shC_0 ltC_0 cO10 rfl (by decide) tw2_48 rfl dX10_pieces_40 ?_
      refine r_getR (k := 0) C hw (is0_s is0_at4) (is0_l is0_at4) cO0 rfl (by decide) tw1_87 rfl dX10_pieces_43 ?_
      refine lv_iload C.1.1 C.1.2.1 dX10_pieces_46 (lv_at hl 4 rfl) ?_
      refine r_iald C hw (is0_s1 is0_at4) (is0_l1 is0_at4) (Nat.le_of_ble_eq_true rfl) dX10_pieces_48 hf (fun v48 hf => ?_)
      refine lv_iload_n C.1.1 C.1.2.1 dX10_pieces_49 rfl (lv_at hl 1 rfl) ?_
      refine r_icmp_lt C (tgt := 57) dX10_pieces_50 (by decide) hf (fun hf => ?_) (fun hf => ?_)
      · refine r_iconst (v := 0) C dX10_pieces_57 ?_
        exact (w_X10_pieces_58 l hinj hZ C out (f_X10_pieces_27 N) ih N) x1 x2 x3 x4 0 S H locs ls hf hw (lv_sub hl [0, 1, 2, 3, 4] rfl)
      · refine r_iconst (v := 1) C dX10_pieces_53 ?_
        refine lv_goto (tgt := 58) C.1.1 C.1.2.1 dX10_pieces_54 (by decide) ?_
        exact (w_X10_pieces_58 l hinj hZ C out (f_X10_pieces_27 N) ih N) x1 x2 x3 x4 1 S H locs ls hf hw (lv_sub hl [0, 1, 2, 3, 4] rfl)
set_option maxRecDepth 100000 in
set_option maxHeartbeats 4000000 in
theorem c_X10_pieces (l : Launch) (X : XT) (hinj : XInj X nC) (hZ : ZOK (Zc X)) (N : Nat) (S : S2) (a1 : Int) (out : Int × S2) (hf : f_X10_pieces N S a1 = some out) : MI l X shC nC (Zc X) yX10_pieces cX10_pieces 6 (some .int) rmX10_pieces [.ref (X.2.2 0), .int (iz a1)] S out := by
  refine met_I (own := RX10) (by decide) rfl hinj hZ (Nat.le_of_ble_eq_true rfl) (fun p e s m args below meth c C ls H locs hw hl => ?_)
  unfold f_X10_pieces at hf
  have hl : lv_has ls 6 [(0, .ref (X.2.2 0)), (1, .int (iz a1))] := hl
  refine lv_aload_n C.1.1 C.1.2.1 dX10_pieces_0 rfl (lv_at hl 0 rfl) ?_
  refine r_callI (As := []) (rest := []) (rm := rmX10_noTrace) C hw shC_0 ltC_0 cO10 tw3_133 tw3_135 tp_22 tw1_1 tw3_136 hd_X10_noTrace rfl ⟨⟨rfl, rfl⟩, Nat.le_of_ble_eq_true rfl, Nat.le_of_ble_eq_true rfl⟩ hl.1 rfl (Nat.le_of_ble_eq_true rfl) dX10_pieces_1 hf (fun o ho => c_X10_noTrace l X hinj hZ N S o ho) (fun v1 S1 H locs hf hw => ?_)
  refine r_if_ne C (tgt := 18) dX10_pieces_4 (by decide) hf (fun hf => ?_) (fun hf => ?_)
  · refine r_iconst (v := (-1)) C dX10_pieces_18 ?_
    exact r_retI C hw dX10_pieces_19 hf
  · refine lv_iload_n C.1.1 C.1.2.1 dX10_pieces_7 rfl (lv_at hl 1 rfl) ?_
    refine r_if_lt C (tgt := 18) dX10_pieces_8 (by decide) hf (fun hf => ?_) (fun hf => ?_)
    · refine r_iconst (v := (-1)) C dX10_pieces_18 ?_
      exact r_retI C hw dX10_pieces_19 hf
    · refine lv_iload_n C.1.1 C.1.2.1 dX10_pieces_11 rfl (lv_at hl 1 rfl) ?_
      refine r_sipush (v := 999) C dX10_pieces_12 (by decide) ?_
      refine r_icmp_le C (tgt := 20) dX10_pieces_15 (by decide) hf (fun hf => ?_) (fun hf => ?_)
      · refine r_iconst (v := 0) C dX10_pieces_20 ?_
        refine lv_istore_n (lv' := [(2, .int (iz 0)), (0, .ref (X.2.2 0)), (1, .int (iz a1))]) C.1.1 C.1.2.1 dX10_pieces_21 rfl hl (by decide) rfl (fun ls hl => ?_)
        refine r_iconst (v := 0) C dX10_pieces_22 ?_
        refine lv_istore_n (lv' := [(3, .int (iz 0)), (2, .int (iz 0)), (0, .ref (X.2.2 0)), (1, .int (iz a1))]) C.1.1 C.1.2.1 dX10_pieces_23 rfl hl (by decide) rfl (fun ls hl => ?_)
        refine r_iconst (v := 0) C dX10_pieces_24 ?_
        refine lv_istore (lv' := [(4, .int (iz 0)), (3, .int (iz 0)), (2, .int (iz 0)), (0, .ref (X.2.2 0)), (1, .int (iz a1))]) C.1.1 C.1.2.1 dX10_pieces_25 hl (by decide) rfl (fun ls hl => ?_)
        exact (w_X10_pieces_27 l hinj hZ C out N) a1 0 0 0 S1 H locs ls hf hw (lv_sub hl [3, 4, 2, 1, 0] rfl)
      · refine r_iconst (v := (-1)) C dX10_pieces_18 ?_
        exact r_retI C hw dX10_pieces_19 hf
def f_X10_hasScript (N : Nat) (S : S2) (a1 : Int) : Option (Int × S2) := cI a1 0 (if a1 < 0 then rZ 0 S else gI S 0 8 fun v6 => cI a1 v6 (if v6 ≤ a1 then rZ 0 S else rZ 1 S))
abbrev rmX10_hasScript : Room := { frames := 0, cells := 0, slots := 0, locals := 0 }
theorem hd_X10_hasScript : yX10_hasScript.cls ≠ "java/lang/invoke/MethodHandle" ∧ yX10_hasScript.cls ≠ "java/lang/invoke/VarHandle" ∧ (parseMethodDescriptor yX10_hasScript.desc).map (fun d => d.parameters.length) = some 1 := by decide +kernel
set_option maxRecDepth 100000 in
set_option maxHeartbeats 4000000 in
theorem c_X10_hasScript (l : Launch) (X : XT) (hinj : XInj X nC) (hZ : ZOK (Zc X)) (N : Nat) (S : S2) (a1 : Int) (out : Int × S2) (hf : f_X10_hasScript N S a1 = some out) : MI l X shC nC (Zc X) yX10_hasScript cX10_hasScript 2 (some .boolean) rmX10_hasScript [.ref (X.2.2 0), .int (iz a1)] S out := by
  refine met_I (own := RX10) (by decide) rfl hinj hZ (Nat.le_of_ble_eq_true rfl) (fun p e s m args below meth c C ls H locs hw hl => ?_)
  unfold f_X10_hasScript at hf
  have hl : lv_has ls 2 [(0, .ref (X.2.2 0)), (1, .int (iz a1))] := hl
  refine lv_iload_n C.1.1 C.1.2.1 dX10_hasScript_0 rfl (lv_at hl 1 rfl) ?_
  refine r_if_lt C (tgt := 16) dX10_hasScript_1 (by decide) hf (fun hf => ?_) (fun hf => ?_)
  · refine r_iconst (v := 0) C dX10_hasScript_16 ?_
    exact r_retZ C hw dX10_hasScript_17 hf
  · refine lv_iload_n C.1.1 C.1.2.1 dX10_hasScript_4 rfl (lv_at hl 1 rfl) ?_
    refine lv_aload_n C.1.1 C.1.2.1 dX10_hasScript_5 rfl (lv_at hl 0 rfl) ?_
    refine r_getI (k := 8) C hw shC_0 ltC_0 cO10 rfl (by decide) tw2_54 rfl dX10_hasScript_6 hf (fun v6 hf => ?_)
    refine r_icmp_ge C (tgt := 16) dX10_hasScript_9 (by decide) hf (fun hf => ?_) (fun hf => ?_)
    · refine r_iconst (v := 0) C dX10_hasScript_16 ?_
      exact r_retZ C hw dX10_hasScript_17 hf
    · refine r_iconst (v := 1) C dX10_hasScript_12 ?_
      refine lv_goto (tgt := 17) C.1.1 C.1.2.1 dX10_hasScript_13 (by decide) ?_
      exact r_retZ C hw dX10_hasScript_17 hf
def f_X0_copyFrom (N : Nat) (S : S2) (c0 : Nat) (c1 : Nat) : Option (S2) := gI S c1 1 fun v2 => uI S c0 1 v2 fun S5 => gI S5 c1 2 fun v10 => uI S5 c0 2 v10 fun S13 => cpI S13 (c1 + 1) (c0 + 1) 48 48 0 0 48 fun S28 => rV S28
abbrev rmX0_copyFrom : Room := { frames := 1, cells := 0, slots := 0, locals := 26 }
theorem hd_X0_copyFrom : yX0_copyFrom.cls ≠ "java/lang/invoke/MethodHandle" ∧ yX0_copyFrom.cls ≠ "java/lang/invoke/VarHandle" ∧ (parseMethodDescriptor yX0_copyFrom.desc).map (fun d => d.parameters.length) = some 1 := by decide +kernel
set_option maxRecDepth 100000 in
set_option maxHeartbeats 4000000 in
theorem c_X0_copyFrom (l : Launch) (X : XT) (hinj : XInj X nC) (hZ : ZOK (Zc X)) (N : Nat) (S : S2) (c0 : Nat) (c1 : Nat) (i0 : Is0 c0) (i1 : Is0 c1) (out : S2) (hf : f_X0_copyFrom N S c0 c1 = some out) : MV l X shC nC (Zc X) yX0_copyFrom cX0_copyFrom 2 none rmX0_copyFrom [.ref (X.2.2 c0), .ref (X.2.2 c1)] S out := by
  refine met_V (own := RX0) (by decide) rfl hinj hZ (Nat.le_of_ble_eq_true rfl) (fun p e s m args below meth c C ls H locs hw hl => ?_)
  unfold f_X0_copyFrom at hf
  have hl : lv_has ls 2 [(0, .ref (X.2.2 c0)), (1, .ref (X.2.2 c1))] := hl
  refine lv_aload_n C.1.1 C.1.2.1 dX0_copyFrom_0 rfl (lv_at hl 0 rfl) ?_
  refine lv_aload_n C.1.1 C.1.2.1 dX0_copyFrom_1 rfl (lv_at hl 1 rfl) ?_
  refine r_getI (k := 1) C hw (is0_s i1) (is0_l i1) cO0 rfl (by decide) tw1_89 rfl dX0_copyFrom_2 hf (fun v2 hf => ?_)
  refine r_putI (k := 1) C hw (is0_s i0) (is0_l i0) cO0 rfl (by decide) tw1_89 rfl rfl rfl dX0_copyFrom_5 hf (fun S5 H locs hf hw => ?_)
  refine lv_aload_n C.1.1 C.1.2.1 dX0_copyFrom_8 rfl (lv_at hl 0 rfl) ?_
  refine lv_aload_n C.1.1 C.1.2.1 dX0_copyFrom_9 rfl (lv_at hl 1 rfl) ?_
  refine r_getI (k := 2) C hw (is0_s i1) (is0_l i1) cO0 rfl (by decide) tw1_93 rfl dX0_copyFrom_10 hf (fun v10 hf => ?_)
  refine r_putI (k := 2) C hw (is0_s i0) (is0_l i0) cO0 rfl (by decide) tw1_93 rfl rfl rfl dX0_copyFrom_13 hf (fun S13 H locs hf hw => ?_)
  refine lv_aload_n C.1.1 C.1.2.1 dX0_copyFrom_16 rfl (lv_at hl 1 rfl) ?_
  refine r_getR (k := 0) C hw (is0_s i1) (is0_l i1) cO0 rfl (by decide) tw1_85 rfl dX0_copyFrom_17 ?_
  refine r_iconst (v := 0) C dX0_copyFrom_20 ?_
  refine lv_aload_n C.1.1 C.1.2.1 dX0_copyFrom_21 rfl (lv_at hl 0 rfl) ?_
  refine r_getR (k := 0) C hw (is0_s i0) (is0_l i0) cO0 rfl (by decide) tw1_85 rfl dX0_copyFrom_22 ?_
  refine r_iconst (v := 0) C dX0_copyFrom_25 ?_
  refine r_bipush (v := 48) C dX0_copyFrom_26 (by decide) ?_
  refine r_cpI C hw (is0_s1 i1) (is0_s1 i0) (is0_l1 i1) (is0_l1 i0) tw3_54 tw3_56 tw3_55 tw1_17 hl.1 (Nat.le_of_ble_eq_true rfl) (Nat.le_of_ble_eq_true rfl) (Nat.le_of_ble_eq_true rfl) (Nat.le_of_ble_eq_true rfl) dX0_copyFrom_28 hf (fun S28 H locs hf hw => ?_)
  exact r_retV C hw dX0_copyFrom_31 hf
def f_X0_has (N : Nat) (S : S2) (c0 : Nat) (a1 : Int) : Option (Int × S2) := cI a1 0 (if a1 < 0 then rZ 0 S else gI S c0 1 fun v6 => cI a1 v6 (if v6 ≤ a1 then rZ 0 S else rZ 1 S))
abbrev rmX0_has : Room := { frames := 0, cells := 0, slots := 0, locals := 0 }
theorem hd_X0_has : yX0_has.cls ≠ "java/lang/invoke/MethodHandle" ∧ yX0_has.cls ≠ "java/lang/invoke/VarHandle" ∧ (parseMethodDescriptor yX0_has.desc).map (fun d => d.parameters.length) = some 1 := by decide +kernel
set_option maxRecDepth 100000 in
set_option maxHeartbeats 4000000 in
theorem c_X0_has (l : Launch) (X : XT) (hinj : XInj X nC) (hZ : ZOK (Zc X)) (N : Nat) (S : S2) (c0 : Nat) (a1 : Int) (i0 : Is0 c0) (out : Int × S2) (hf : f_X0_has N S c0 a1 = some out) : MI l X shC nC (Zc X) yX0_has cX0_has 2 (some .boolean) rmX0_has [.ref (X.2.2 c0), .int (iz a1)] S out := by
  refine met_I (own := RX0) (by decide) rfl hinj hZ (Nat.le_of_ble_eq_true rfl) (fun p e s m args below meth c C ls H locs hw hl => ?_)
  unfold f_X0_has at hf
  have hl : lv_has ls 2 [(0, .ref (X.2.2 c0)), (1, .int (iz a1))] := hl
  refine lv_iload_n C.1.1 C.1.2.1 dX0_has_0 rfl (lv_at hl 1 rfl) ?_
  refine r_if_lt C (tgt := 16) dX0_has_1 (by decide) hf (fun hf => ?_) (fun hf => ?_)
  · refine r_iconst (v := 0) C dX0_has_16 ?_
    exact r_retZ C hw dX0_has_17 hf
  · refine lv_iload_n C.1.1 C.1.2.1 dX0_has_4 rfl (lv_at hl 1 rfl) ?_
    refine lv_aload_n C.1.1 C.1.2.1 dX0_has_5 rfl (lv_at hl 0 rfl) ?_
    refine r_getI (k := 1) C hw (is0_s i0) (is0_l i0) cO0 rfl (by decide) tw1_89 rfl dX0_has_6 hf (fun v6 hf => ?_)
    refine r_icmp_ge C (tgt := 16) dX0_has_9 (by decide) hf (fun hf => ?_) (fun hf => ?_)
    · refine r_iconst (v := 0) C dX0_has_16 ?_
      exact r_retZ C hw dX0_has_17 hf
    · refine r_iconst (v := 1) C dX0_has_12 ?_
      refine lv_goto (tgt := 17) C.1.1 C.1.2.1 dX0_has_13 (by decide) ?_
      exact r_retZ C hw dX0_has_17 hf
def f_X0_leastSample_6 (c0 : Nat) : Nat → Int → Int → S2 → Option (Int × S2)
  | 0, _, _, _ => none
  | N + 1, x1, x2, S => gI S c0 1 fun v8 => cI x2 v8 (if v8 ≤ x2 then rI x1 S else aI S (c0 + 1) 48 x2 fun v20 => mnI x1 v20 fun v21 => (f_X0_leastSample_6 c0 N) v21 (x2 + 1) S)
def f_X0_leastSample (N : Nat) (S : S2) (c0 : Nat) : Option (Int × S2) := (f_X0_leastSample_6 c0 N) 999 0 S
abbrev rmX0_leastSample : Room := { frames := 1, cells := 0, slots := 0, locals := 21 }
theorem hd_X0_leastSample : yX0_leastSample.cls ≠ "java/lang/invoke/MethodHandle" ∧ yX0_leastSample.cls ≠ "java/lang/invoke/VarHandle" ∧ (parseMethodDescriptor yX0_leastSample.desc).map (fun d => d.parameters.length) = some 0 := by decide +kernel
set_option maxRecDepth 100000 in
set_option maxHeartbeats 4000000 in
theorem w_X0_leastSample_6 {p : Program} (l : Launch) {e : Env} {s : State} {m : MethodId} {args : Array Value} {below : List Frame} {meth : Method} {c : Code} {X : XT} (hinj : XInj X nC) (hZ : ZOK (Zc X)) (C : CX p s m args meth c cX0_leastSample 3 RX0 (some .int) X nC (Zc X)) (out : Int × S2) (c0 : Nat) (i0 : Is0 c0) : ∀ (N : Nat), ∀ (x1 : Int) (x2 : Int) (S : S2) (H : Heap) (locs : List Loc) (ls : Array Slot), f_X0_leastSample_6 c0 N x1 x2 S = some out → WH X shC nC s S H locs → lv_has ls 3 [(0, .ref (X.2.2 c0)), (1, .int (iz x1)), (2, .int (iz x2))] → W p l e rmX0_leastSample s m args below meth c H locs 0 0 (QI X shC nC s args below out) (F0 m 6 ls []) := by
  intro N
  induction N with
  | zero => intro x1 x2 S H locs ls hf hw hl; cases hf
  | succ N ih =>
    intro x1 x2 S H locs ls hf hw hl
    rw [f_X0_leastSample_6.eq_2] at hf
    refine lv_iload_n C.1.1 C.1.2.1 dX0_leastSample_6 rfl (lv_at hl 2 rfl) ?_
    refine lv_aload_n C.1.1 C.1.2.1 dX0_leastSample_7 rfl (lv_at hl 0 rfl) ?_
    refine r_getI (k := 1) C hw (is0_s i0) (is0_l i0) cO0 rfl (by decide) tw1_89 rfl dX0_leastSample_8 hf (fun v8 hf => ?_)
    refine r_icmp_ge C (tgt := 31) dX0_leastSample_11 (by decide) hf (fun hf => ?_) (fun hf => ?_)
    · refine lv_iload_n C.1.1 C.1.2.1 dX0_leastSample_31 rfl (lv_at hl 1 rfl) ?_
      exact r_retI C hw dX0_leastSample_32 hf
    · refine lv_iload_n C.1.1 C.1.2.1 dX0_leastSample_14 rfl (lv_at hl 1 rfl) ?_
      refine lv_aload_n C.1.1 C.1.2.1 dX0_leastSample_15 rfl (lv_at hl 0 rfl) ?_
      refine r_getR (k := 0) C hw (is0_s i0) (is0_l i0) cO0 rfl (by decide) tw1_85 rfl dX0_leastSample_16 ?_
      refine lv_iload_n C.1.1 C.1.2.1 dX0_leastSample_19 rfl (lv_at hl 2 rfl) ?_
      refine r_iald C hw (is0_s1 i0) (is0_l1 i0) (Nat.le_of_ble_eq_true rfl) dX0_leastSample_20 hf (fun v20 hf => ?_)
      refine r_min C tw3_141 tw3_83 tw1_18 tw3_84 hl.1 (Nat.le_of_ble_eq_true rfl) (Nat.le_of_ble_eq_true rfl) dX0_leastSample_21 hf (fun v21 hf => ?_)
      refine lv_istore_n (lv' := [(1, .int (iz v21)), (0, .ref (X.2.2 c0)), (2, .int (iz x2))]) C.1.1 C.1.2.1 dX0_leastSample_24 rfl hl (by decide) rfl (fun ls hl => ?_)
      refine lv_iinc (v := iz (x2 + 1)) (lv' := [(2, .int (iz (x2 + 1))), (1, .int (iz v21)), (0, .ref (X.2.2 c0))]) C.1.1 C.1.2.1 dX0_leastSample_25 hl (k := 2) rfl (iz_add _ _) (by decide) rfl (fun ls hl => ?_)
      refine lv_goto (tgt := 6) C.1.1 C.1.2.1 dX0_leastSample_28 (by decide) ?_
      exact ih v21 (x2 + 1) S H locs ls hf hw (lv_sub hl [2, 1, 0] rfl)
set_option maxRecDepth 100000 in
set_option maxHeartbeats 4000000 in
theorem c_X0_leastSample (l : Launch) (X : XT) (hinj : XInj X nC) (hZ : ZOK (Zc X)) (N : Nat) (S : S2) (c0 : Nat) (i0 : Is0 c0) (out : Int × S2) (hf : f_X0_leastSample N S c0 = some out) : MI l X shC nC (Zc X) yX0_leastSample cX0_leastSample 3 (some .int) rmX0_leastSample [.ref (X.2.2 c0)] S out := by
  refine met_I (own := RX0) (by decide) rfl hinj hZ (Nat.le_of_ble_eq_true rfl) (fun p e s m args below meth c C ls H locs hw hl => ?_)
  unfold f_X0_leastSample at hf
  have hl : lv_has ls 3 [(0, .ref (X.2.2 c0))] := hl
  refine r_sipush (v := 999) C dX0_leastSample_0 (by decide) ?_
  refine lv_istore_n (lv' := [(1, .int (iz 999)), (0, .ref (X.2.2 c0))]) C.1.1 C.1.2.1 dX0_leastSample_3 rfl hl (by decide) rfl (fun ls hl => ?_)
  refine r_iconst (v := 0) C dX0_leastSample_4 ?_
  refine lv_istore_n (lv' := [(2, .int (iz 0)), (1, .int (iz 999)), (0, .ref (X.2.2 c0))]) C.1.1 C.1.2.1 dX0_leastSample_5 rfl hl (by decide) rfl (fun ls hl => ?_)
  exact (w_X0_leastSample_6 l hinj hZ C out c0 i0 N) 999 0 S H locs ls hf hw (lv_sub hl [2, 1, 0] rfl)
def f_X0_greatestSample_4 (c0 : Nat) : Nat → Int → Int → S2 → Option (Int × S2)
  | 0, _, _, _ => none
  | N + 1, x1, x2, S => gI S c0 1 fun v6 => cI x2 v6 (if v6 ≤ x2 then rI x1 S else aI S (c0 + 1) 48 x2 fun v18 => mxI x1 v18 fun v19 => (f_X0_greatestSample_4 c0 N) v19 (x2 + 1) S)
def f_X0_greatestSample (N : Nat) (S : S2) (c0 : Nat) : Option (Int × S2) := (f_X0_greatestSample_4 c0 N) 0 0 S
abbrev rmX0_greatestSample : Room := { frames := 1, cells := 0, slots := 0, locals := 21 }
theorem hd_X0_greatestSample : yX0_greatestSample.cls ≠ "java/lang/invoke/MethodHandle" ∧ yX0_greatestSample.cls ≠ "java/lang/invoke/VarHandle" ∧ (parseMethodDescriptor yX0_greatestSample.desc).map (fun d => d.parameters.length) = some 0 := by decide +kernel
set_option maxRecDepth 100000 in
set_option maxHeartbeats 4000000 in
theorem w_X0_greatestSample_4 {p : Program} (l : Launch) {e : Env} {s : State} {m : MethodId} {args : Array Value} {below : List Frame} {meth : Method} {c : Code} {X : XT} (hinj : XInj X nC) (hZ : ZOK (Zc X)) (C : CX p s m args meth c cX0_greatestSample 3 RX0 (some .int) X nC (Zc X)) (out : Int × S2) (c0 : Nat) (i0 : Is0 c0) : ∀ (N : Nat), ∀ (x1 : Int) (x2 : Int) (S : S2) (H : Heap) (locs : List Loc) (ls : Array Slot), f_X0_greatestSample_4 c0 N x1 x2 S = some out → WH X shC nC s S H locs → lv_has ls 3 [(0, .ref (X.2.2 c0)), (1, .int (iz x1)), (2, .int (iz x2))] → W p l e rmX0_greatestSample s m args below meth c H locs 0 0 (QI X shC nC s args below out) (F0 m 4 ls []) := by
  intro N
  induction N with
  | zero => intro x1 x2 S H locs ls hf hw hl; cases hf
  | succ N ih =>
    intro x1 x2 S H locs ls hf hw hl
    rw [f_X0_greatestSample_4.eq_2] at hf
    refine lv_iload_n C.1.1 C.1.2.1 dX0_greatestSample_4 rfl (lv_at hl 2 rfl) ?_
    refine lv_aload_n C.1.1 C.1.2.1 dX0_greatestSample_5 rfl (lv_at hl 0 rfl) ?_
    refine r_getI (k := 1) C hw (is0_s i0) (is0_l i0) cO0 rfl (by decide) tw1_89 rfl dX0_greatestSample_6 hf (fun v6 hf => ?_)
    refine r_icmp_ge C (tgt := 29) dX0_greatestSample_9 (by decide) hf (fun hf => ?_) (fun hf => ?_)
    · refine lv_iload_n C.1.1 C.1.2.1 dX0_greatestSample_29 rfl (lv_at hl 1 rfl) ?_
      exact r_retI C hw dX0_greatestSample_30 hf
    · refine lv_iload_n C.1.1 C.1.2.1 dX0_greatestSample_12 rfl (lv_at hl 1 rfl) ?_
      refine lv_aload_n C.1.1 C.1.2.1 dX0_greatestSample_13 rfl (lv_at hl 0 rfl) ?_
      refine r_getR (k := 0) C hw (is0_s i0) (is0_l i0) cO0 rfl (by decide) tw1_85 rfl dX0_greatestSample_14 ?_
      refine lv_iload_n C.1.1 C.1.2.1 dX0_greatestSample_17 rfl (lv_at hl 2 rfl) ?_
      refine r_iald C hw (is0_s1 i0) (is0_l1 i0) (Nat.le_of_ble_eq_true rfl) dX0_greatestSample_18 hf (fun v18 hf => ?_)
      refine r_max C tw4_23 tw3_86 tw1_18 tw3_87 hl.1 (Nat.le_of_ble_eq_true rfl) (Nat.le_of_ble_eq_true rfl) dX0_greatestSample_19 hf (fun v19 hf => ?_)
      refine lv_istore_n (lv' := [(1, .int (iz v19)), (0, .ref (X.2.2 c0)), (2, .int (iz x2))]) C.1.1 C.1.2.1 dX0_greatestSample_22 rfl hl (by decide) rfl (fun ls hl => ?_)
      refine lv_iinc (v := iz (x2 + 1)) (lv' := [(2, .int (iz (x2 + 1))), (1, .int (iz v19)), (0, .ref (X.2.2 c0))]) C.1.1 C.1.2.1 dX0_greatestSample_23 hl (k := 2) rfl (iz_add _ _) (by decide) rfl (fun ls hl => ?_)
      refine lv_goto (tgt := 4) C.1.1 C.1.2.1 dX0_greatestSample_26 (by decide) ?_
      exact ih v19 (x2 + 1) S H locs ls hf hw (lv_sub hl [2, 1, 0] rfl)
set_option maxRecDepth 100000 in
set_option maxHeartbeats 4000000 in
theorem c_X0_greatestSample (l : Launch) (X : XT) (hinj : XInj X nC) (hZ : ZOK (Zc X)) (N : Nat) (S : S2) (c0 : Nat) (i0 : Is0 c0) (out : Int × S2) (hf : f_X0_greatestSample N S c0 = some out) : MI l X shC nC (Zc X) yX0_greatestSample cX0_greatestSample 3 (some .int) rmX0_greatestSample [.ref (X.2.2 c0)] S out := by
  refine met_I (own := RX0) (by decide) rfl hinj hZ (Nat.le_of_ble_eq_true rfl) (fun p e s m args below meth c C ls H locs hw hl => ?_)
  unfold f_X0_greatestSample at hf
  have hl : lv_has ls 3 [(0, .ref (X.2.2 c0))] := hl
  refine r_iconst (v := 0) C dX0_greatestSample_0 ?_
  refine lv_istore_n (lv' := [(1, .int (iz 0)), (0, .ref (X.2.2 c0))]) C.1.1 C.1.2.1 dX0_greatestSample_1 rfl hl (by decide) rfl (fun ls hl => ?_)
  refine r_iconst (v := 0) C dX0_greatestSample_2 ?_
  refine lv_istore_n (lv' := [(2, .int (iz 0)), (1, .int (iz 0)), (0, .ref (X.2.2 c0))]) C.1.1 C.1.2.1 dX0_greatestSample_3 rfl hl (by decide) rfl (fun ls hl => ?_)
  exact (w_X0_greatestSample_4 l hinj hZ C out c0 i0 N) 0 0 S H locs ls hf hw (lv_sub hl [2, 1, 0] rfl)
def f_X0_sumOfSamples_4 (c0 : Nat) : Nat → Int → Int → S2 → Option (Int × S2)
  | 0, _, _, _ => none
  | N + 1, x1, x2, S => gI S c0 1 fun v6 => cI x2 v6 (if v6 ≤ x2 then rI x1 S else aI S (c0 + 1) 48 x2 fun v18 => (f_X0_sumOfSamples_4 c0 N) (x1 + v18) (x2 + 1) S)
def f_X0_sumOfSamples (N : Nat) (S : S2) (c0 : Nat) : Option (Int × S2) := (f_X0_sumOfSamples_4 c0 N) 0 0 S
abbrev rmX0_sumOfSamples : Room := { frames := 0, cells := 0, slots := 0, locals := 0 }
theorem hd_X0_sumOfSamples : yX0_sumOfSamples.cls ≠ "java/lang/invoke/MethodHandle" ∧ yX0_sumOfSamples.cls ≠ "java/lang/invoke/VarHandle" ∧ (parseMethodDescriptor yX0_sumOfSamples.desc).map (fun d => d.parameters.length) = some 0 := by decide +kernel
set_option maxRecDepth 100000 in
set_option maxHeartbeats 4000000 in
theorem w_X0_sumOfSamples_4 {p : Program} (l : Launch) {e : Env} {s : State} {m : MethodId} {args : Array Value} {below : List Frame} {meth : Method} {c : Code} {X : XT} (hinj : XInj X nC) (hZ : ZOK (Zc X)) (C : CX p s m args meth c cX0_sumOfSamples 3 RX0 (some .int) X nC (Zc X)) (out : Int × S2) (c0 : Nat) (i0 : Is0 c0) : ∀ (N : Nat), ∀ (x1 : Int) (x2 : Int) (S : S2) (H : Heap) (locs : List Loc) (ls : Array Slot), f_X0_sumOfSamples_4 c0 N x1 x2 S = some out → WH X shC nC s S H locs → lv_has ls 3 [(0, .ref (X.2.2 c0)), (1, .int (iz x1)), (2, .int (iz x2))] → W p l e rmX0_sumOfSamples s m args below meth c H locs 0 0 (QI X shC nC s args below out) (F0 m 4 ls []) := by
  intro N
  induction N with
  | zero => intro x1 x2 S H locs ls hf hw hl; cases hf
  | succ N ih =>
    intro x1 x2 S H locs ls hf hw hl
    rw [f_X0_sumOfSamples_4.eq_2] at hf
    refine lv_iload_n C.1.1 C.1.2.1 dX0_sumOfSamples_4 rfl (lv_at hl 2 rfl) ?_
    refine lv_aload_n C.1.1 C.1.2.1 dX0_sumOfSamples_5 rfl (lv_at hl 0 rfl) ?_
    refine r_getI (k := 1) C hw (is0_s i0) (is0_l i0) cO0 rfl (by decide) tw1_89 rfl dX0_sumOfSamples_6 hf (fun v6 hf => ?_)
    refine r_icmp_ge C (tgt := 27) dX0_sumOfSamples_9 (by decide) hf (fun hf => ?_) (fun hf => ?_)
    · refine lv_iload_n C.1.1 C.1.2.1 dX0_sumOfSamples_27 rfl (lv_at hl 1 rfl) ?_
      exact r_retI C hw dX0_sumOfSamples_28 hf
    · refine lv_iload_n C.1.1 C.1.2.1 dX0_sumOfSamples_12 rfl (lv_at hl 1 rfl) ?_
      refine lv_aload_n C.1.1 C.1.2.1 dX0_sumOfSamples_13 rfl (lv_at hl 0 rfl) ?_
      refine r_getR (k := 0) C hw (is0_s i0) (is0_l i0) cO0 rfl (by decide) tw1_85 rfl dX0_sumOfSamples_14 ?_
      refine lv_iload_n C.1.1 C.1.2.1 dX0_sumOfSamples_17 rfl (lv_at hl 2 rfl) ?_
      refine r_iald C hw (is0_s1 i0) (is0_l1 i0) (Nat.le_of_ble_eq_true rfl) dX0_sumOfSamples_18 hf (fun v18 hf => ?_)
      refine r_iadd C dX0_sumOfSamples_19 ?_
      refine lv_istore_n (lv' := [(1, .int (iz (x1 + v18))), (0, .ref (X.2.2 c0)), (2, .int (iz x2))]) C.1.1 C.1.2.1 dX0_sumOfSamples_20 rfl hl (by decide) rfl (fun ls hl => ?_)
      refine lv_iinc (v := iz (x2 + 1)) (lv' := [(2, .int (iz (x2 + 1))), (1, .int (iz (x1 + v18))), (0, .ref (X.2.2 c0))]) C.1.1 C.1.2.1 dX0_sumOfSamples_21 hl (k := 2) rfl (iz_add _ _) (by decide) rfl (fun ls hl => ?_)
      refine lv_goto (tgt := 4) C.1.1 C.1.2.1 dX0_sumOfSamples_24 (by decide) ?_
      exact ih (x1 + v18) (x2 + 1) S H locs ls hf hw (lv_sub hl [2, 1, 0] rfl)
set_option maxRecDepth 100000 in
set_option maxHeartbeats 4000000 in
theorem c_X0_sumOfSamples (l : Launch) (X : XT) (hinj : XInj X nC) (hZ : ZOK (Zc X)) (N : Nat) (S : S2) (c0 : Nat) (i0 : Is0 c0) (out : Int × S2) (hf : f_X0_sumOfSamples N S c0 = some out) : MI l X shC nC (Zc X) yX0_sumOfSamples cX0_sumOfSamples 3 (some .int) rmX0_sumOfSamples [.ref (X.2.2 c0)] S out := by
  refine met_I (own := RX0) (by decide) rfl hinj hZ (Nat.le_of_ble_eq_true rfl) (fun p e s m args below meth c C ls H locs hw hl => ?_)
  unfold f_X0_sumOfSamples at hf
  have hl : lv_has ls 3 [(0, .ref (X.2.2 c0))] := hl
  refine r_iconst (v := 0) C dX0_sumOfSamples_0 ?_
  refine lv_istore_n (lv' := [(1, .int (iz 0)), (0, .ref (X.2.2 c0))]) C.1.1 C.1.2.1 dX0_sumOfSamples_1 rfl hl (by decide) rfl (fun ls hl => ?_)
  refine r_iconst (v := 0) C dX0_sumOfSamples_2 ?_
  refine lv_istore_n (lv' := [(2, .int (iz 0)), (1, .int (iz 0)), (0, .ref (X.2.2 c0))]) C.1.1 C.1.2.1 dX0_sumOfSamples_3 rfl hl (by decide) rfl (fun ls hl => ?_)
  exact (w_X0_sumOfSamples_4 l hinj hZ C out c0 i0 N) 0 0 S H locs ls hf hw (lv_sub hl [2, 1, 0] rfl)
def f_X0_leastPlace_49 (c0 : Nat) (k7 : Int → Int → Int → S2 → Option (Int × S2)) (N : Nat) (x2 : Int) (x3 : Int) (x4 : Int) (S : S2) : Option (Int × S2) := k7 x2 x3 (x4 + 1) S
def f_X0_leastPlace_7 (c0 : Nat) : Nat → Int → Int → Int → S2 → Option (Int × S2)
  | 0, _, _, _, _ => none
  | N + 1, x2, x3, x4, S => cI x4 x2 (if x2 < x4 then rI x3 S else bI (f_X0_has N S c0 x4) fun v16 S16 => cI v16 0 (if v16 = 0 then (f_X0_leastPlace_49 c0 (f_X0_leastPlace_7 c0 N) N) x2 x3 x4 S16 else bI (f_X0_has N S16 c0 x3) fun v24 S24 => cI v24 0 (if v24 = 0 then (f_X0_leastPlace_49 c0 (f_X0_leastPlace_7 c0 N) N) x2 x3 x4 S24 else aI S24 (c0 + 1) 48 x4 fun v36 => aI S24 (c0 + 1) 48 x3 fun v42 => cI v36 v42 (if v42 ≤ v36 then (f_X0_leastPlace_49 c0 (f_X0_leastPlace_7 c0 N) N) x2 x3 x4 S24 else (f_X0_leastPlace_49 c0 (f_X0_leastPlace_7 c0 N) N) x2 x4 x4 S24))))
def f_X0_leastPlace (N : Nat) (S : S2) (c0 : Nat) (a1 : Int) (a2 : Int) : Option (Int × S2) := (f_X0_leastPlace_7 c0 N) a2 a1 (a1 + 1) S
abbrev rmX0_leastPlace : Room := { frames := 1, cells := 0, slots := 0, locals := 21 }
theorem hd_X0_leastPlace : yX0_leastPlace.cls ≠ "java/lang/invoke/MethodHandle" ∧ yX0_leastPlace.cls ≠ "java/lang/invoke/VarHandle" ∧ (parseMethodDescriptor yX0_leastPlace.desc).map (fun d => d.parameters.length) = some 2 := by decide +kernel
set_option maxRecDepth 100000 in
set_option maxHeartbeats 4000000 in
theorem w_X0_leastPlace_49 {p : Program} (l : Launch) {e : Env} {s : State} {m : MethodId} {args : Array Value} {below : List Frame} {meth : Method} {c : Code} {X : XT} (hinj : XInj X nC) (hZ : ZOK (Zc X)) (C : CX p s m args meth c cX0_leastPlace 5 RX0 (some .int) X nC (Zc X)) (out : Int × S2) (c0 : Nat) (i0 : Is0 c0) (k7 : Int → Int → Int → S2 → Option (Int × S2)) (hk7 : ∀ (x2 : Int) (x3 : Int) (x4 : Int) (S : S2) (H : Heap) (locs : List Loc) (ls : Array Slot), k7 x2 x3 x4 S = some out → WH X shC nC s S H locs → lv_has ls 5 [(0, .ref (X.2.2 c0)), (2, .int (iz x2)), (3, .int (iz x3)), (4, .int (iz x4))] → W p l e rmX0_leastPlace s m args below meth c H locs 0 0 (QI X shC nC s args below out) (F0 m 7 ls [])) : ∀ (N : Nat), ∀ (x2 : Int) (x3 : Int) (x4 : Int) (S : S2) (H : Heap) (locs : List Loc) (ls : Array Slot), f_X0_leastPlace_49 c0 k7 N x2 x3 x4 S = some out → WH X shC nC s S H locs → lv_has ls 5 [(0, .ref (X.2.2 c0)), (2, .int (iz x2)), (3, .int (iz x3)), (4, .int (iz x4))] → W p l e rmX0_leastPlace s m args below meth c H locs 0 0 (QI X shC nC s args below out) (F0 m 49 ls []) := by
  intro N x2 x3 x4 S H locs ls hf hw hl
  unfold f_X0_leastPlace_49 at hf
  refine lv_iinc (v := iz (x4 + 1)) (lv' := [(4, .int (iz (x4 + 1))), (0, .ref (X.2.2 c0)), (2, .int (iz x2)), (3, .int (iz x3))]) C.1.1 C.1.2.1 dX0_leastPlace_49 hl (k := 3) rfl (iz_add _ _) (by decide) rfl (fun ls hl => ?_)
  refine lv_goto (tgt := 7) C.1.1 C.1.2.1 dX0_leastPlace_52 (by decide) ?_
  exact hk7 x2 x3 (x4 + 1) S H locs ls hf hw (lv_sub hl [1, 2, 3, 0] rfl)
set_option maxRecDepth 100000 in
set_option maxHeartbeats 4000000 in
theorem w_X0_leastPlace_7 {p : Program} (l : Launch) {e : Env} {s : State} {m : MethodId} {args : Array Value} {below : List Frame} {meth : Method} {c : Code} {X : XT} (hinj : XInj X nC) (hZ : ZOK (Zc X)) (C : CX p s m args meth c cX0_leastPlace 5 RX0 (some .int) X nC (Zc X)) (out : Int × S2) (c0 : Nat) (i0 : Is0 c0) : ∀ (N : Nat), ∀ (x2 : Int) (x3 : Int) (x4 : Int) (S : S2) (H : Heap) (locs : List Loc) (ls : Array Slot), f_X0_leastPlace_7 c0 N x2 x3 x4 S = some out → WH X shC nC s S H locs → lv_has ls 5 [(0, .ref (X.2.2 c0)), (2, .int (iz x2)), (3, .int (iz x3)), (4, .int (iz x4))] → W p l e rmX0_leastPlace s m args below meth c H locs 0 0 (QI X shC nC s args below out) (F0 m 7 ls []) := by
  intro N
  induction N with
  | zero => intro x2 x3 x4 S H locs ls hf hw hl; cases hf
  | succ N ih =>
    intro x2 x3 x4 S H locs ls hf hw hl
    rw [f_X0_leastPlace_7.eq_2] at hf
    refine lv_iload C.1.1 C.1.2.1 dX0_leastPlace_7 (lv_at hl 3 rfl) ?_
    refine lv_iload_n C.1.1 C.1.2.1 dX0_leastPlace_9 rfl (lv_at hl 1 rfl) ?_
    refine r_icmp_gt C (tgt := 55) dX0_leastPlace_10 (by decide) hf (fun hf => ?_) (fun hf => ?_)
    · refine lv_iload_n C.1.1 C.1.2.1 dX0_leastPlace_55 rfl (lv_at hl 2 rfl) ?_
      exact r_retI C hw dX0_leastPlace_56 hf
    · refine lv_aload_n C.1.1 C.1.2.1 dX0_leastPlace_13 rfl (lv_at hl 0 rfl) ?_
      refine lv_iload C.1.1 C.1.2.1 dX0_leastPlace_14 (lv_at hl 3 rfl) ?_
      refine r_callI (As := [.int (iz x4)]) (rest := []) (rm := rmX0_has) C hw (is0_s i0) (is0_l i0) cO0 tw3_174 tw3_151 tw3_152 tw1_4 tw3_153 hd_X0_has rfl ⟨⟨rfl, rfl⟩, Nat.le_of_ble_eq_true rfl, Nat.le_of_ble_eq_true rfl⟩ hl.1 rfl (Nat.le_of_ble_eq_true rfl) dX0_leastPlace_16 hf (fun o ho => c_X0_has l X hinj hZ N S c0 x4 i0 o ho) (fun v16 S16 H locs hf hw => ?_)
      refine r_if_eq C (tgt := 49) dX0_leastPlace_19 (by decide) hf (fun hf => ?_) (fun hf => ?_)
      · exact (w_X0_leastPlace_49 l hinj hZ C out c0 i0 (f_X0_leastPlace_7 c0 N) ih N) x2 x3 x4 S16 H locs ls hf hw (lv_sub hl [0, 1, 2, 3] rfl)
      · refine lv_aload_n C.1.1 C.1.2.1 dX0_leastPlace_22 rfl (lv_at hl 0 rfl) ?_
        refine lv_iload_n C.1.1 C.1.2.1 dX0_leastPlace_23 rfl (lv_at hl 2 rfl) ?_
        refine r_callI (As := [.int (iz x3)]) (rest := []) (rm := rmX0_has) C hw (is0_s i0) (is0_l i0) cO0 tw3_174 tw3_151 tw3_152 tw1_4 tw3_153 hd_X0_has rfl ⟨⟨rfl, rfl⟩, Nat.le_of_ble_eq_true rfl, Nat.le_of_ble_eq_true rfl⟩ hl.1 rfl (Nat.le_of_ble_eq_true rfl) dX0_leastPlace_24 hf (fun o ho => c_X0_has l X hinj hZ N S16 c0 x3 i0 o ho) (fun v24 S24 H locs hf hw => ?_)
        refine r_if_eq C (tgt := 49) dX0_leastPlace_27 (by decide) hf (fun hf => ?_) (fun hf => ?_)
        · exact (w_X0_leastPlace_49 l hinj hZ C out c0 i0 (f_X0_leastPlace_7 c0 N) ih N) x2 x3 x4 S24 H locs ls hf hw (lv_sub hl [0, 1, 2, 3] rfl)
        · refine lv_aload_n C.1.1 C.1.2.1 dX0_leastPlace_30 rfl (lv_at hl 0 rfl) ?_
          refine r_getR (k := 0) C hw (is0_s i0) (is0_l i0) cO0 rfl (by decide) tw1_85 rfl dX0_leastPlace_31 ?_
          refine lv_iload C.1.1 C.1.2.1 dX0_leastPlace_34 (lv_at hl 3 rfl) ?_
          refine r_iald C hw (is0_s1 i0) (is0_l1 i0) (Nat.le_of_ble_eq_true rfl) dX0_leastPlace_36 hf (fun v36 hf => ?_)
          refine lv_aload_n C.1.1 C.1.2.1 dX0_leastPlace_37 rfl (lv_at hl 0 rfl) ?_
          refine r_getR (k := 0) C hw (is0_s i0) (is0_l i0) cO0 rfl (by decide) tw1_85 rfl dX0_leastPlace_38 ?_
          refine lv_iload_n C.1.1 C.1.2.1 dX0_leastPlace_41 rfl (lv_at hl 2 rfl) ?_
          refine r_iald C hw (is0_s1 i0) (is0_l1 i0) (Nat.le_of_ble_eq_true rfl) dX0_leastPlace_42 hf (fun v42 hf => ?_)
          refine r_icmp_ge C (tgt := 49) dX0_leastPlace_43 (by decide) hf (fun hf => ?_) (fun hf => ?_)
          · exact (w_X0_leastPlace_49 l hinj hZ C out c0 i0 (f_X0_leastPlace_7 c0 N) ih N) x2 x3 x4 S24 H locs ls hf hw (lv_sub hl [0, 1, 2, 3] rfl)
          · refine lv_iload C.1.1 C.1.2.1 dX0_leastPlace_46 (lv_at hl 3 rfl) ?_
            refine lv_istore_n (lv' := [(3, .int (iz x4)), (0, .ref (X.2.2 c0)), (2, .int (iz x2)), (4, .int (iz x4))]) C.1.1 C.1.2.1 dX0_leastPlace_48 rfl hl (by decide) rfl (fun ls hl => ?_)
            exact (w_X0_leastPlace_49 l hinj hZ C out c0 i0 (f_X0_leastPlace_7 c0 N) ih N) x2 x4 x4 S24 H locs ls hf hw (lv_sub hl [1, 2, 0, 3] rfl)
set_option maxRecDepth 100000 in
set_option maxHeartbeats 4000000 in
theorem c_X0_leastPlace (l : Launch) (X : XT) (hinj : XInj X nC) (hZ : ZOK (Zc X)) (N : Nat) (S : S2) (c0 : Nat) (a1 : Int) (a2 : Int) (i0 : Is0 c0) (out : Int × S2) (hf : f_X0_leastPlace N S c0 a1 a2 = some out) : MI l X shC nC (Zc X) yX0_leastPlace cX0_leastPlace 5 (some .int) rmX0_leastPlace [.ref (X.2.2 c0), .int (iz a1), .int (iz a2)] S out := by
  refine met_I (own := RX0) (by decide) rfl hinj hZ (Nat.le_of_ble_eq_true rfl) (fun p e s m args below meth c C ls H locs hw hl => ?_)
  unfold f_X0_leastPlace at hf
  have hl : lv_has ls 5 [(0, .ref (X.2.2 c0)), (1, .int (iz a1)), (2, .int (iz a2))] := hl
  refine lv_iload_n C.1.1 C.1.2.1 dX0_leastPlace_0 rfl (lv_at hl 1 rfl) ?_
  refine lv_istore_n (lv' := [(3, .int (iz a1)), (0, .ref (X.2.2 c0)), (1, .int (iz a1)), (2, .int (iz a2))]) C.1.1 C.1.2.1 dX0_leastPlace_1 rfl hl (by decide) rfl (fun ls hl => ?_)
  refine lv_iload_n C.1.1 C.1.2.1 dX0_leastPlace_2 rfl (lv_at hl 2 rfl) ?_
  refine r_iconst (v := 1) C dX0_leastPlace_3 ?_
  refine r_iadd C dX0_leastPlace_4 ?_
  refine lv_istore (lv' := [(4, .int (iz (a1 + 1))), (3, .int (iz a1)), (0, .ref (X.2.2 c0)), (1, .int (iz a1)), (2, .int (iz a2))]) C.1.1 C.1.2.1 dX0_leastPlace_5 hl (by decide) rfl (fun ls hl => ?_)
  exact (w_X0_leastPlace_7 l hinj hZ C out c0 i0 N) a2 a1 (a1 + 1) S H locs ls hf hw (lv_sub hl [2, 4, 1, 0] rfl)
def f_X0_runStart_2 (c0 : Nat) : Nat → Int → Int → S2 → Option (Int × S2)
  | 0, _, _, _ => none
  | N + 1, x2, x3, S => cI x3 0 (if x3 ≤ 0 then rI x3 S else gI S c0 1 fun v8 => cI x3 v8 (if v8 < x3 then rI x3 S else aI S (c0 + 1) 48 (x3 - 1) fun v21 => cI v21 x2 (if v21 < x2 then rI x3 S else (f_X0_runStart_2 c0 N) x2 (x3 + (-1)) S)))
def f_X0_runStart (N : Nat) (S : S2) (c0 : Nat) (a1 : Int) (a2 : Int) : Option (Int × S2) := (f_X0_runStart_2 c0 N) a2 a1 S
abbrev rmX0_runStart : Room := { frames := 0, cells := 0, slots := 0, locals := 0 }
theorem hd_X0_runStart : yX0_runStart.cls ≠ "java/lang/invoke/MethodHandle" ∧ yX0_runStart.cls ≠ "java/lang/invoke/VarHandle" ∧ (parseMethodDescriptor yX0_runStart.desc).map (fun d => d.parameters.length) = some 2 := by decide +kernel
set_option maxRecDepth 100000 in
set_option maxHeartbeats 4000000 in
theorem w_X0_runStart_2 {p : Program} (l : Launch) {e : Env} {s : State} {m : MethodId} {args : Array Value} {below : List Frame} {meth : Method} {c : Code} {X : XT} (hinj : XInj X nC) (hZ : ZOK (Zc X)) (C : CX p s m args meth c cX0_runStart 4 RX0 (some .int) X nC (Zc X)) (out : Int × S2) (c0 : Nat) (i0 : Is0 c0) : ∀ (N : Nat), ∀ (x2 : Int) (x3 : Int) (S : S2) (H : Heap) (locs : List Loc) (ls : Array Slot), f_X0_runStart_2 c0 N x2 x3 S = some out → WH X shC nC s S H locs → lv_has ls 4 [(0, .ref (X.2.2 c0)), (2, .int (iz x2)), (3, .int (iz x3))] → W p l e rmX0_runStart s m args below meth c H locs 0 0 (QI X shC nC s args below out) (F0 m 2 ls []) := by
  intro N
  induction N with
  | zero => intro x2 x3 S H locs ls hf hw hl; cases hf
  | succ N ih =>
    intro x2 x3 S H locs ls hf hw hl
    rw [f_X0_runStart_2.eq_2] at hf
    refine lv_iload_n C.1.1 C.1.2.1 dX0_runStart_2 rfl (lv_at hl 2 rfl) ?_
    refine r_if_le C (tgt := 32) dX0_runStart_3 (by decide) hf (fun hf => ?_) (fun hf => ?_)
    · refine lv_iload_n C.1.1 C.1.2.1 dX0_runStart_32 rfl (lv_at hl 2 rfl) ?_
      exact r_retI C hw dX0_runStart_33 hf
    · refine lv_iload_n C.1.1 C.1.2.1 dX0_runStart_6 rfl (lv_at hl 2 rfl) ?_
      refine lv_aload_n C.1.1 C.1.2.1 dX0_runStart_7 rfl (lv_at hl 0 rfl) ?_
      refine r_getI (k := 1) C hw (is0_s i0) (is0_l i0) cO0 rfl (by decide) tw1_89 rfl dX0_runStart_8 hf (fun v8 hf => ?_)
      refine r_icmp_gt C (tgt := 32) dX0_runStart_11 (by decide) hf (fun hf => ?_) (fun hf => ?_)
      · refine lv_iload_n C.1.1 C.1.2.1 dX0_runStart_32 rfl (lv_at hl 2 rfl) ?_
        exact r_retI C hw dX0_runStart_33 hf
      · refine lv_aload_n C.1.1 C.1.2.1 dX0_runStart_14 rfl (lv_at hl 0 rfl) ?_
        refine r_getR (k := 0) C hw (is0_s i0) (is0_l i0) cO0 rfl (by decide) tw1_85 rfl dX0_runStart_15 ?_
        refine lv_iload_n C.1.1 C.1.2.1 dX0_runStart_18 rfl (lv_at hl 2 rfl) ?_
        refine r_iconst (v := 1) C dX0_runStart_19 ?_
        refine r_isub C dX0_runStart_20 ?_
        refine r_iald C hw (is0_s1 i0) (is0_l1 i0) (Nat.le_of_ble_eq_true rfl) dX0_runStart_21 hf (fun v21 hf => ?_)
        refine lv_iload_n C.1.1 C.1.2.1 dX0_runStart_22 rfl (lv_at hl 1 rfl) ?_
        refine r_icmp_lt C (tgt := 32) dX0_runStart_23 (by decide) hf (fun hf => ?_) (fun hf => ?_)
        · refine lv_iload_n C.1.1 C.1.2.1 dX0_runStart_32 rfl (lv_at hl 2 rfl) ?_
          exact r_retI C hw dX0_runStart_33 hf
        · refine lv_iinc (v := iz (x3 + (-1))) (lv' := [(3, .int (iz (x3 + (-1)))), (0, .ref (X.2.2 c0)), (2, .int (iz x2))]) C.1.1 C.1.2.1 dX0_runStart_26 hl (k := 2) rfl (iz_add _ _) (by decide) rfl (fun ls hl => ?_)
          refine lv_goto (tgt := 2) C.1.1 C.1.2.1 dX0_runStart_29 (by decide) ?_
          exact ih x2 (x3 + (-1)) S H locs ls hf hw (lv_sub hl [1, 2, 0] rfl)
set_option maxRecDepth 100000 in
set_option maxHeartbeats 4000000 in
theorem c_X0_runStart (l : Launch) (X : XT) (hinj : XInj X nC) (hZ : ZOK (Zc X)) (N : Nat) (S : S2) (c0 : Nat) (a1 : Int) (a2 : Int) (i0 : Is0 c0) (out : Int × S2) (hf : f_X0_runStart N S c0 a1 a2 = some out) : MI l X shC nC (Zc X) yX0_runStart cX0_runStart 4 (some .int) rmX0_runStart [.ref (X.2.2 c0), .int (iz a1), .int (iz a2)] S out := by
  refine met_I (own := RX0) (by decide) rfl hinj hZ (Nat.le_of_ble_eq_true rfl) (fun p e s m args below meth c C ls H locs hw hl => ?_)
  unfold f_X0_runStart at hf
  have hl : lv_has ls 4 [(0, .ref (X.2.2 c0)), (1, .int (iz a1)), (2, .int (iz a2))] := hl
  refine lv_iload_n C.1.1 C.1.2.1 dX0_runStart_0 rfl (lv_at hl 1 rfl) ?_
  refine lv_istore_n (lv' := [(3, .int (iz a1)), (0, .ref (X.2.2 c0)), (1, .int (iz a1)), (2, .int (iz a2))]) C.1.1 C.1.2.1 dX0_runStart_1 rfl hl (by decide) rfl (fun ls hl => ?_)
  exact (w_X0_runStart_2 l hinj hZ C out c0 i0 N) a2 a1 S H locs ls hf hw (lv_sub hl [1, 3, 0] rfl)
def f_X0_runEnd_2 (c0 : Nat) : Nat → Int → Int → S2 → Option (Int × S2)
  | 0, _, _, _ => none
  | N + 1, x2, x3, S => cI x3 0 (if x3 < 0 then rI x3 S else gI S c0 1 fun v10 => cI (x3 + 1) v10 (if v10 ≤ (x3 + 1) then rI x3 S else aI S (c0 + 1) 48 (x3 + 1) fun v23 => cI v23 x2 (if v23 < x2 then rI x3 S else (f_X0_runEnd_2 c0 N) x2 (x3 + 1) S)))
def f_X0_runEnd (N : Nat) (S : S2) (c0 : Nat) (a1 : Int) (a2 : Int) : Option (Int × S2) := (f_X0_runEnd_2 c0 N) a2 a1 S
abbrev rmX0_runEnd : Room := { frames := 0, cells := 0, slots := 0, locals := 0 }
theorem hd_X0_runEnd : yX0_runEnd.cls ≠ "java/lang/invoke/MethodHandle" ∧ yX0_runEnd.cls ≠ "java/lang/invoke/VarHandle" ∧ (parseMethodDescriptor yX0_runEnd.desc).map (fun d => d.parameters.length) = some 2 := by decide +kernel
set_option maxRecDepth 100000 in
set_option maxHeartbeats 4000000 in
theorem w_X0_runEnd_2 {p : Program} (l : Launch) {e : Env} {s : State} {m : MethodId} {args : Array Value} {below : List Frame} {meth : Method} {c : Code} {X : XT} (hinj : XInj X nC) (hZ : ZOK (Zc X)) (C : CX p s m args meth c cX0_runEnd 4 RX0 (some .int) X nC (Zc X)) (out : Int × S2) (c0 : Nat) (i0 : Is0 c0) : ∀ (N : Nat), ∀ (x2 : Int) (x3 : Int) (S : S2) (H : Heap) (locs : List Loc) (ls : Array Slot), f_X0_runEnd_2 c0 N x2 x3 S = some out → WH X shC nC s S H locs → lv_has ls 4 [(0, .ref (X.2.2 c0)), (2, .int (iz x2)), (3, .int (iz x3))] → W p l e rmX0_runEnd s m args below meth c H locs 0 0 (QI X shC nC s args below out) (F0 m 2 ls []) := by
  intro N
  induction N with
  | zero => intro x2 x3 S H locs ls hf hw hl; cases hf
  | succ N ih =>
    intro x2 x3 S H locs ls hf hw hl
    rw [f_X0_runEnd_2.eq_2] at hf
    refine lv_iload_n C.1.1 C.1.2.1 dX0_runEnd_2 rfl (lv_at hl 2 rfl) ?_
    refine r_if_lt C (tgt := 34) dX0_runEnd_3 (by decide) hf (fun hf => ?_) (fun hf => ?_)
    · refine lv_iload_n C.1.1 C.1.2.1 dX0_runEnd_34 rfl (lv_at hl 2 rfl) ?_
      exact r_retI C hw dX0_runEnd_35 hf
    · refine lv_iload_n C.1.1 C.1.2.1 dX0_runEnd_6 rfl (lv_at hl 2 rfl) ?_
      refine r_iconst (v := 1) C dX0_runEnd_7 ?_
      refine r_iadd C dX0_runEnd_8 ?_
      refine lv_aload_n C.1.1 C.1.2.1 dX0_runEnd_9 rfl (lv_at hl 0 rfl) ?_
      refine r_getI (k := 1) C hw (is0_s i0) (is0_l i0) cO0 rfl (by decide) tw1_89 rfl dX0_runEnd_10 hf (fun v10 hf => ?_)
      refine r_icmp_ge C (tgt := 34) dX0_runEnd_13 (by decide) hf (fun hf => ?_) (fun hf => ?_)
      · refine lv_iload_n C.1.1 C.1.2.1 dX0_runEnd_34 rfl (lv_at hl 2 rfl) ?_
        exact r_retI C hw dX0_runEnd_35 hf
      · refine lv_aload_n C.1.1 C.1.2.1 dX0_runEnd_16 rfl (lv_at hl 0 rfl) ?_
        refine r_getR (k := 0) C hw (is0_s i0) (is0_l i0) cO0 rfl (by decide) tw1_85 rfl dX0_runEnd_17 ?_
        refine lv_iload_n C.1.1 C.1.2.1 dX0_runEnd_20 rfl (lv_at hl 2 rfl) ?_
        refine r_iconst (v := 1) C dX0_runEnd_21 ?_
        refine r_iadd C dX0_runEnd_22 ?_
        refine r_iald C hw (is0_s1 i0) (is0_l1 i0) (Nat.le_of_ble_eq_true rfl) dX0_runEnd_23 hf (fun v23 hf => ?_)
        refine lv_iload_n C.1.1 C.1.2.1 dX0_runEnd_24 rfl (lv_at hl 1 rfl) ?_
        refine r_icmp_lt C (tgt := 34) dX0_runEnd_25 (by decide) hf (fun hf => ?_) (fun hf => ?_)
        · refine lv_iload_n C.1.1 C.1.2.1 dX0_runEnd_34 rfl (lv_at hl 2 rfl) ?_
          exact r_retI C hw dX0_runEnd_35 hf
        · refine lv_iinc (v := iz (x3 + 1)) (lv' := [(3, .int (iz (x3 + 1))), (0, .ref (X.2.2 c0)), (2, .int (iz x2))]) C.1.1 C.1.2.1 dX0_runEnd_28 hl (k := 2) rfl (iz_add _ _) (by decide) rfl (fun ls hl => ?_)
          refine lv_goto (tgt := 2) C.1.1 C.1.2.1 dX0_runEnd_31 (by decide) ?_
          exact ih x2 (x3 + 1) S H locs ls hf hw (lv_sub hl [1, 2, 0] rfl)
set_option maxRecDepth 100000 in
set_option maxHeartbeats 4000000 in
theorem c_X0_runEnd (l : Launch) (X : XT) (hinj : XInj X nC) (hZ : ZOK (Zc X)) (N : Nat) (S : S2) (c0 : Nat) (a1 : Int) (a2 : Int) (i0 : Is0 c0) (out : Int × S2) (hf : f_X0_runEnd N S c0 a1 a2 = some out) : MI l X shC nC (Zc X) yX0_runEnd cX0_runEnd 4 (some .int) rmX0_runEnd [.ref (X.2.2 c0), .int (iz a1), .int (iz a2)] S out := by
  refine met_I (own := RX0) (by decide) rfl hinj hZ (Nat.le_of_ble_eq_true rfl) (fun p e s m args below meth c C ls H locs hw hl => ?_)
  unfold f_X0_runEnd at hf
  have hl : lv_has ls 4 [(0, .ref (X.2.2 c0)), (1, .int (iz a1)), (2, .int (iz a2))] := hl
  refine lv_iload_n C.1.1 C.1.2.1 dX0_runEnd_0 rfl (lv_at hl 1 rfl) ?_
  refine lv_istore_n (lv' := [(3, .int (iz a1)), (0, .ref (X.2.2 c0)), (1, .int (iz a1)), (2, .int (iz a2))]) C.1.1 C.1.2.1 dX0_runEnd_1 rfl hl (by decide) rfl (fun ls hl => ?_)
  exact (w_X0_runEnd_2 l hinj hZ C out c0 i0 N) a2 a1 S H locs ls hf hw (lv_sub hl [1, 3, 0] rfl)
def f_X0_inBounds (N : Nat) (S : S2) (c0 : Nat) (a1 : Int) (a2 : Int) (a3 : Int) : Option (Int × S2) := cI a1 0 (if a1 = 4 then cI a2 0 (if a2 < 0 then rZ 0 S else cI a2 999 (if 999 < a2 then rZ 0 S else rZ 1 S)) else (if a1 = 5 then cI a2 (-999) (if a2 < (-999) then rZ 0 S else cI a2 999 (if 999 < a2 then rZ 0 S else rZ 1 S)) else (if a1 = 6 then cI a2 0 (if a2 < 0 then rZ 0 S else cI a2 99 (if 99 < a2 then rZ 0 S else cI a3 1 (if a3 < 1 then rZ 0 S else cI a3 99 (if 99 < a3 then rZ 0 S else rZ 1 S)))) else (if a1 = 7 then cI a3 0 (if a3 < 0 then rZ 0 S else cI a3 999 (if 999 < a3 then rZ 0 S else rZ 1 S)) else (if a1 = 8 then cI a2 0 (if a2 < 0 then rZ 0 S else cI a2 999 (if 999 < a2 then rZ 0 S else rZ 1 S)) else (if a1 = 9 then cI a3 1 (if a3 < 1 then rZ 0 S else gI S c0 1 fun v128 => cI a3 (v128 - a2) (if (v128 - a2) < a3 then rZ 0 S else rZ 1 S)) else rZ 1 S))))))
abbrev rmX0_inBounds : Room := { frames := 0, cells := 0, slots := 0, locals := 0 }
theorem hd_X0_inBounds : yX0_inBounds.cls ≠ "java/lang/invoke/MethodHandle" ∧ yX0_inBounds.cls ≠ "java/lang/invoke/VarHandle" ∧ (parseMethodDescriptor yX0_inBounds.desc).map (fun d => d.parameters.length) = some 3 := by decide +kernel
set_option maxRecDepth 100000 in
set_option maxHeartbeats 4000000 in
theorem c_X0_inBounds (l : Launch) (X : XT) (hinj : XInj X nC) (hZ : ZOK (Zc X)) (N : Nat) (S : S2) (c0 : Nat) (a1 : Int) (a2 : Int) (a3 : Int) (i0 : Is0 c0) (out : Int × S2) (hf : f_X0_inBounds N S c0 a1 a2 a3 = some out) : MI l X shC nC (Zc X) yX0_inBounds cX0_inBounds 4 (some .boolean) rmX0_inBounds [.ref (X.2.2 c0), .int (iz a1), .int (iz a2), .int (iz a3)] S out := by
  refine met_I (own := RX0) (by decide) rfl hinj hZ (Nat.le_of_ble_eq_true rfl) (fun p e s m args below meth c C ls H locs hw hl => ?_)
  unfold f_X0_inBounds at hf
  have hl : lv_has ls 4 [(0, .ref (X.2.2 c0)), (1, .int (iz a1)), (2, .int (iz a2)), (3, .int (iz a3))] := hl
  refine lv_iload_n C.1.1 C.1.2.1 dX0_inBounds_0 rfl (lv_at hl 1 rfl) ?_
  obtain ⟨⟨hsw, -⟩, hf⟩ := cI_some hf
  rcases ite_some hf with ⟨hc1_4, hf⟩ | ⟨hc1_4, hf⟩
  · refine lv_tableIn (tgt := 40) C.1.1 C.1.2.1 dX0_inBounds_1 (by rw [hc1_4]; decide) (by rw [hc1_4]; decide) (by rw [hc1_4]; rfl) (by decide) ?_
    refine lv_iload_n C.1.1 C.1.2.1 dX0_inBounds_40 rfl (lv_at hl 2 rfl) ?_
    refine r_if_lt C (tgt := 55) dX0_inBounds_41 (by decide) hf (fun hf => ?_) (fun hf => ?_)
    · refine r_iconst (v := 0) C dX0_inBounds_55 ?_
      exact r_retZ C hw dX0_inBounds_56 hf
    · refine lv_iload_n C.1.1 C.1.2.1 dX0_inBounds_44 rfl (lv_at hl 2 rfl) ?_
      refine r_sipush (v := 999) C dX0_inBounds_45 (by decide) ?_
      refine r_icmp_gt C (tgt := 55) dX0_inBounds_48 (by decide) hf (fun hf => ?_) (fun hf => ?_)
      · refine r_iconst (v := 0) C dX0_inBounds_55 ?_
        exact r_retZ C hw dX0_inBounds_56 hf
      · refine r_iconst (v := 1) C dX0_inBounds_51 ?_
        refine lv_goto (tgt := 56) C.1.1 C.1.2.1 dX0_inBounds_52 (by decide) ?_
        exact r_retZ C hw dX0_inBounds_56 hf
  · skip
    rcases ite_some hf with ⟨hc1_5, hf⟩ | ⟨hc1_5, hf⟩
    · refine lv_tableIn (tgt := 57) C.1.1 C.1.2.1 dX0_inBounds_1 (by rw [hc1_5]; decide) (by rw [hc1_5]; decide) (by rw [hc1_5]; rfl) (by decide) ?_
      refine lv_iload_n C.1.1 C.1.2.1 dX0_inBounds_57 rfl (lv_at hl 2 rfl) ?_
      refine r_sipush (v := (-999)) C dX0_inBounds_58 (by decide) ?_
      refine r_icmp_lt C (tgt := 75) dX0_inBounds_61 (by decide) hf (fun hf => ?_) (fun hf => ?_)
      · refine r_iconst (v := 0) C dX0_inBounds_75 ?_
        exact r_retZ C hw dX0_inBounds_76 hf
      · refine lv_iload_n C.1.1 C.1.2.1 dX0_inBounds_64 rfl (lv_at hl 2 rfl) ?_
        refine r_sipush (v := 999) C dX0_inBounds_65 (by decide) ?_
        refine r_icmp_gt C (tgt := 75) dX0_inBounds_68 (by decide) hf (fun hf => ?_) (fun hf => ?_)
        · refine r_iconst (v := 0) C dX0_inBounds_75 ?_
          exact r_retZ C hw dX0_inBounds_76 hf
        · refine r_iconst (v := 1) C dX0_inBounds_71 ?_
          refine lv_goto (tgt := 76) C.1.1 C.1.2.1 dX0_inBounds_72 (by decide) ?_
          exact r_retZ C hw dX0_inBounds_76 hf
    · skip
      rcases ite_some hf with ⟨hc1_6, hf⟩ | ⟨hc1_6, hf⟩
      · refine lv_tableIn (tgt := 77) C.1.1 C.1.2.1 dX0_inBounds_1 (by rw [hc1_6]; decide) (by rw [hc1_6]; decide) (by rw [hc1_6]; rfl) (by decide) ?_
        refine lv_iload_n C.1.1 C.1.2.1 dX0_inBounds_77 rfl (lv_at hl 2 rfl) ?_
        refine r_if_lt C (tgt := 102) dX0_inBounds_78 (by decide) hf (fun hf => ?_) (fun hf => ?_)
        · refine r_iconst (v := 0) C dX0_inBounds_102 ?_
          exact r_retZ C hw dX0_inBounds_103 hf
        · refine lv_iload_n C.1.1 C.1.2.1 dX0_inBounds_81 rfl (lv_at hl 2 rfl) ?_
          refine r_bipush (v := 99) C dX0_inBounds_82 (by decide) ?_
          refine r_icmp_gt C (tgt := 102) dX0_inBounds_84 (by decide) hf (fun hf => ?_) (fun hf => ?_)
          · refine r_iconst (v := 0) C dX0_inBounds_102 ?_
            exact r_retZ C hw dX0_inBounds_103 hf
          · refine lv_iload_n C.1.1 C.1.2.1 dX0_inBounds_87 rfl (lv_at hl 3 rfl) ?_
            refine r_iconst (v := 1) C dX0_inBounds_88 ?_
            refine r_icmp_lt C (tgt := 102) dX0_inBounds_89 (by decide) hf (fun hf => ?_) (fun hf => ?_)
            · refine r_iconst (v := 0) C dX0_inBounds_102 ?_
              exact r_retZ C hw dX0_inBounds_103 hf
            · refine lv_iload_n C.1.1 C.1.2.1 dX0_inBounds_92 rfl (lv_at hl 3 rfl) ?_
              refine r_bipush (v := 99) C dX0_inBounds_93 (by decide) ?_
              refine r_icmp_gt C (tgt := 102) dX0_inBounds_95 (by decide) hf (fun hf => ?_) (fun hf => ?_)
              · refine r_iconst (v := 0) C dX0_inBounds_102 ?_
                exact r_retZ C hw dX0_inBounds_103 hf
              · refine r_iconst (v := 1) C dX0_inBounds_98 ?_
                refine lv_goto (tgt := 103) C.1.1 C.1.2.1 dX0_inBounds_99 (by decide) ?_
                exact r_retZ C hw dX0_inBounds_103 hf
      · skip
        rcases ite_some hf with ⟨hc1_7, hf⟩ | ⟨hc1_7, hf⟩
        · refine lv_tableIn (tgt := 104) C.1.1 C.1.2.1 dX0_inBounds_1 (by rw [hc1_7]; decide) (by rw [hc1_7]; decide) (by rw [hc1_7]; rfl) (by decide) ?_
          refine lv_iload_n C.1.1 C.1.2.1 dX0_inBounds_104 rfl (lv_at hl 3 rfl) ?_
          refine r_if_lt C (tgt := 119) dX0_inBounds_105 (by decide) hf (fun hf => ?_) (fun hf => ?_)
          · refine r_iconst (v := 0) C dX0_inBounds_119 ?_
            exact r_retZ C hw dX0_inBounds_120 hf
          · refine lv_iload_n C.1.1 C.1.2.1 dX0_inBounds_108 rfl (lv_at hl 3 rfl) ?_
            refine r_sipush (v := 999) C dX0_inBounds_109 (by decide) ?_
            refine r_icmp_gt C (tgt := 119) dX0_inBounds_112 (by decide) hf (fun hf => ?_) (fun hf => ?_)
            · refine r_iconst (v := 0) C dX0_inBounds_119 ?_
              exact r_retZ C hw dX0_inBounds_120 hf
            · refine r_iconst (v := 1) C dX0_inBounds_115 ?_
              refine lv_goto (tgt := 120) C.1.1 C.1.2.1 dX0_inBounds_116 (by decide) ?_
              exact r_retZ C hw dX0_inBounds_120 hf
        · skip
          rcases ite_some hf with ⟨hc1_8, hf⟩ | ⟨hc1_8, hf⟩
          · refine lv_tableIn (tgt := 40) C.1.1 C.1.2.1 dX0_inBounds_1 (by rw [hc1_8]; decide) (by rw [hc1_8]; decide) (by rw [hc1_8]; rfl) (by decide) ?_
            refine lv_iload_n C.1.1 C.1.2.1 dX0_inBounds_40 rfl (lv_at hl 2 rfl) ?_
            refine r_if_lt C (tgt := 55) dX0_inBounds_41 (by decide) hf (fun hf => ?_) (fun hf => ?_)
            · refine r_iconst (v := 0) C dX0_inBounds_55 ?_
              exact r_retZ C hw dX0_inBounds_56 hf
            · refine lv_iload_n C.1.1 C.1.2.1 dX0_inBounds_44 rfl (lv_at hl 2 rfl) ?_
              refine r_sipush (v := 999) C dX0_inBounds_45 (by decide) ?_
              refine r_icmp_gt C (tgt := 55) dX0_inBounds_48 (by decide) hf (fun hf => ?_) (fun hf => ?_)
              · refine r_iconst (v := 0) C dX0_inBounds_55 ?_
                exact r_retZ C hw dX0_inBounds_56 hf
              · refine r_iconst (v := 1) C dX0_inBounds_51 ?_
                refine lv_goto (tgt := 56) C.1.1 C.1.2.1 dX0_inBounds_52 (by decide) ?_
                exact r_retZ C hw dX0_inBounds_56 hf
          · skip
            rcases ite_some hf with ⟨hc1_9, hf⟩ | ⟨hc1_9, hf⟩
            · refine lv_tableIn (tgt := 121) C.1.1 C.1.2.1 dX0_inBounds_1 (by rw [hc1_9]; decide) (by rw [hc1_9]; decide) (by rw [hc1_9]; rfl) (by decide) ?_
              refine lv_iload_n C.1.1 C.1.2.1 dX0_inBounds_121 rfl (lv_at hl 3 rfl) ?_
              refine r_iconst (v := 1) C dX0_inBounds_122 ?_
              refine r_icmp_lt C (tgt := 140) dX0_inBounds_123 (by decide) hf (fun hf => ?_) (fun hf => ?_)
              · refine r_iconst (v := 0) C dX0_inBounds_140 ?_
                exact r_retZ C hw dX0_inBounds_141 hf
              · refine lv_iload_n C.1.1 C.1.2.1 dX0_inBounds_126 rfl (lv_at hl 3 rfl) ?_
                refine lv_aload_n C.1.1 C.1.2.1 dX0_inBounds_127 rfl (lv_at hl 0 rfl) ?_
                refine r_getI (k := 1) C hw (is0_s i0) (is0_l i0) cO0 rfl (by decide) tw1_89 rfl dX0_inBounds_128 hf (fun v128 hf => ?_)
                refine lv_iload_n C.1.1 C.1.2.1 dX0_inBounds_131 rfl (lv_at hl 2 rfl) ?_
                refine r_isub C dX0_inBounds_132 ?_
                refine r_icmp_gt C (tgt := 140) dX0_inBounds_133 (by decide) hf (fun hf => ?_) (fun hf => ?_)
                · refine r_iconst (v := 0) C dX0_inBounds_140 ?_
                  exact r_retZ C hw dX0_inBounds_141 hf
                · refine r_iconst (v := 1) C dX0_inBounds_136 ?_
                  refine lv_goto (tgt := 141) C.1.1 C.1.2.1 dX0_inBounds_137 (by decide) ?_
                  exact r_retZ C hw dX0_inBounds_141 hf
            · skip
              refine lv_tableOut (tgt := 142) C.1.1 C.1.2.1 dX0_inBounds_1 (by rw [sw_in hsw]; omega) (by decide) ?_
              refine r_iconst (v := 1) C dX0_inBounds_142 ?_
              exact r_retZ C hw dX0_inBounds_143 hf
def f_X0_middle (N : Nat) (S : S2) (a0 : Int) (a1 : Int) (a2 : Int) : Option (Int × S2) := mnI a0 a1 fun v2 => mxI a0 a1 fun v8 => mnI v8 a2 fun v17 => mxI v2 v17 fun v20 => rI v20 S
abbrev rmX0_middle : Room := { frames := 1, cells := 0, slots := 0, locals := 21 }
theorem hd_X0_middle : yX0_middle.cls ≠ "java/lang/invoke/MethodHandle" ∧ yX0_middle.cls ≠ "java/lang/invoke/VarHandle" ∧ (parseMethodDescriptor yX0_middle.desc).map (fun d => d.parameters.length) = some 3 := by decide +kernel
set_option maxRecDepth 100000 in
set_option maxHeartbeats 4000000 in
theorem c_X0_middle (l : Launch) (X : XT) (hinj : XInj X nC) (hZ : ZOK (Zc X)) (N : Nat) (S : S2) (a0 : Int) (a1 : Int) (a2 : Int) (out : Int × S2) (hf : f_X0_middle N S a0 a1 a2 = some out) : MI l X shC nC (Zc X) yX0_middle cX0_middle 5 (some .int) rmX0_middle [.int (iz a0), .int (iz a1), .int (iz a2)] S out := by
  refine met_I (own := RX0) (by decide) rfl hinj hZ (Nat.le_of_ble_eq_true rfl) (fun p e s m args below meth c C ls H locs hw hl => ?_)
  unfold f_X0_middle at hf
  have hl : lv_has ls 5 [(0, .int (iz a0)), (1, .int (iz a1)), (2, .int (iz a2))] := hl
  refine lv_iload_n C.1.1 C.1.2.1 dX0_middle_0 rfl (lv_at hl 0 rfl) ?_
  refine lv_iload_n C.1.1 C.1.2.1 dX0_middle_1 rfl (lv_at hl 1 rfl) ?_
  refine r_min C tw3_141 tw3_83 tw1_18 tw3_84 hl.1 (Nat.le_of_ble_eq_true rfl) (Nat.le_of_ble_eq_true rfl) dX0_middle_2 hf (fun v2 hf => ?_)
  refine lv_istore_n (lv' := [(3, .int (iz v2)), (0, .int (iz a0)), (1, .int (iz a1)), (2, .int (iz a2))]) C.1.1 C.1.2.1 dX0_middle_5 rfl hl (by decide) rfl (fun ls hl => ?_)
  refine lv_iload_n C.1.1 C.1.2.1 dX0_middle_6 rfl (lv_at hl 1 rfl) ?_
  refine lv_iload_n C.1.1 C.1.2.1 dX0_middle_7 rfl (lv_at hl 2 rfl) ?_
  refine r_max C tw4_23 tw3_86 tw1_18 tw3_87 hl.1 (Nat.le_of_ble_eq_true rfl) (Nat.le_of_ble_eq_true rfl) dX0_middle_8 hf (fun v8 hf => ?_)
  refine lv_istore (lv' := [(4, .int (iz v8)), (3, .int (iz v2)), (0, .int (iz a0)), (1, .int (iz a1)), (2, .int (iz a2))]) C.1.1 C.1.2.1 dX0_middle_11 hl (by decide) rfl (fun ls hl => ?_)
  refine lv_iload_n C.1.1 C.1.2.1 dX0_middle_13 rfl (lv_at hl 1 rfl) ?_
  refine lv_iload C.1.1 C.1.2.1 dX0_middle_14 (lv_at hl 0 rfl) ?_
  refine lv_iload_n C.1.1 C.1.2.1 dX0_middle_16 rfl (lv_at hl 4 rfl) ?_
  refine r_min C tw3_141 tw3_83 tw1_18 tw3_84 hl.1 (Nat.le_of_ble_eq_true rfl) (Nat.le_of_ble_eq_true rfl) dX0_middle_17 hf (fun v17 hf => ?_)
  refine r_max C tw4_23 tw3_86 tw1_18 tw3_87 hl.1 (Nat.le_of_ble_eq_true rfl) (Nat.le_of_ble_eq_true rfl) dX0_middle_20 hf (fun v20 hf => ?_)
  exact r_retI C hw dX0_middle_23 hf
def f_X0_reverse_58 (c0 : Nat) (N : Nat) (S : S2) : Option (Int × S2) := aI S (c0 + 1) 48 0 fun v63 => rI v63 S
def f_X0_reverse_2 (c0 : Nat) (k58 : S2 → Option (Int × S2)) : Nat → Int → S2 → Option (Int × S2)
  | 0, _, _ => none
  | N + 1, x1, S => gI S c0 1 fun v4 => dvI v4 2 fun v8 => cI x1 v8 (if v8 ≤ x1 then k58 S else aI S (c0 + 1) 48 x1 fun v17 => gI S c0 1 fun v29 => aI S (c0 + 1) 48 ((v29 - 1) - x1) fun v36 => sI S (c0 + 1) 48 x1 v36 fun S37 => gI S37 c0 1 fun v43 => sI S37 (c0 + 1) 48 ((v43 - 1) - x1) v17 fun S51 => (f_X0_reverse_2 c0 k58 N) (x1 + 1) S51)
def f_X0_reverse (N : Nat) (S : S2) (c0 : Nat) : Option (Int × S2) := (f_X0_reverse_2 c0 (f_X0_reverse_58 c0 N) N) 0 S
abbrev rmX0_reverse : Room := { frames := 0, cells := 0, slots := 0, locals := 0 }
theorem hd_X0_reverse : yX0_reverse.cls ≠ "java/lang/invoke/MethodHandle" ∧ yX0_reverse.cls ≠ "java/lang/invoke/VarHandle" ∧ (parseMethodDescriptor yX0_reverse.desc).map (fun d => d.parameters.length) = some 0 := by decide +kernel
set_option maxRecDepth 100000 in
set_option maxHeartbeats 4000000 in
theorem w_X0_reverse_58 {p : Program} (l : Launch) {e : Env} {s : State} {m : MethodId} {args : Array Value} {below : List Frame} {meth : Method} {c : Code} {X : XT} (hinj : XInj X nC) (hZ : ZOK (Zc X)) (C : CX p s m args meth c cX0_reverse 3 RX0 (some .int) X nC (Zc X)) (out : Int × S2) (c0 : Nat) (i0 : Is0 c0) : ∀ (N : Nat), ∀ (S : S2) (H : Heap) (locs : List Loc) (ls : Array Slot), f_X0_reverse_58 c0 N S = some out → WH X shC nC s S H locs → lv_has ls 3 [(0, .ref (X.2.2 c0))] → W p l e rmX0_reverse s m args below meth c H locs 0 0 (QI X shC nC s args below out) (F0 m 58 ls []) := by
  intro N S H locs ls hf hw hl
  unfold f_X0_reverse_58 at hf
  refine lv_aload_n C.1.1 C.1.2.1 dX0_reverse_58 rfl (lv_at hl 0 rfl) ?_
  refine r_getR (k := 0) C hw (is0_s i0) (is0_l i0) cO0 rfl (by decide) tw1_85 rfl dX0_reverse_59 ?_
  refine r_iconst (v := 0) C dX0_reverse_62 ?_
  refine r_iald C hw (is0_s1 i0) (is0_l1 i0) (Nat.le_of_ble_eq_true rfl) dX0_reverse_63 hf (fun v63 hf => ?_)
  exact r_retI C hw dX0_reverse_64 hf
set_option maxRecDepth 100000 in
set_option maxHeartbeats 4000000 in
theorem w_X0_reverse_2 {p : Program} (l : Launch) {e : Env} {s : State} {m : MethodId} {args : Array Value} {below : List Frame} {meth : Method} {c : Code} {X : XT} (hinj : XInj X nC) (hZ : ZOK (Zc X)) (C : CX p s m args meth c cX0_reverse 3 RX0 (some .int) X nC (Zc X)) (out : Int × S2) (c0 : Nat) (i0 : Is0 c0) (k58 : S2 → Option (Int × S2)) (hk58 : ∀ (S : S2) (H : Heap) (locs : List Loc) (ls : Array Slot), k58 S = some out → WH X shC nC s S H locs → lv_has ls 3 [(0, .ref (X.2.2 c0))] → W p l e rmX0_reverse s m args below meth c H locs 0 0 (QI X shC nC s args below out) (F0 m 58 ls [])) : ∀ (N : Nat), ∀ (x1 : Int) (S : S2) (H : Heap) (locs : List Loc) (ls : Array Slot), f_X0_reverse_2 c0 k58 N x1 S = some out → WH X shC nC s S H locs → lv_has ls 3 [(0, .ref (X.2.2 c0)), (1, .int (iz x1))] → W p l e rmX0_reverse s m args below meth c H locs 0 0 (QI X shC nC s args below out) (F0 m 2 ls []) := by
  intro N
  induction N with
  | zero => intro x1 S H locs ls hf hw hl; cases hf
  | succ N ih =>
    intro x1 S H locs ls hf hw hl
    rw [f_X0_reverse_2.eq_2] at hf
    refine lv_iload_n C.1.1 C.1.2.1 dX0_reverse_2 rfl (lv_at hl 1 rfl) ?_
    refine lv_aload_n C.1.1 C.1.2.1 dX0_reverse_3 rfl (lv_at hl 0 rfl) ?_
    refine r_getI (k := 1) C hw (is0_s i0) (is0_l i0) cO0 rfl (by decide) tw1_89 rfl dX0_reverse_4 hf (fun v4 hf => ?_)
    refine r_iconst (v := 2) C dX0_reverse_7 ?_
    refine r_idiv C dX0_reverse_8 hf (fun v8 hf => ?_)
    refine r_icmp_ge C (tgt := 58) dX0_reverse_9 (by decide) hf (fun hf => ?_) (fun hf => ?_)
    · exact hk58 S H locs ls hf hw (lv_sub hl [0] rfl)
    · refine lv_aload_n C.1.1 C.1.2.1 dX0_reverse_12 rfl (lv_at hl 0 rfl) ?_
      refine r_getR (k := 0) C hw (is0_s i0) (is0_l i0) cO0 rfl (by decide) tw1_85 rfl dX0_reverse_13 ?_
      refine lv_iload_n C.1.1 C.1.2.1 dX0_reverse_16 rfl (lv_at hl 1 rfl) ?_
      refine r_iald C hw (is0_s1 i0) (is0_l1 i0) (Nat.le_of_ble_eq_true rfl) dX0_reverse_17 hf (fun v17 hf => ?_)
      refine lv_istore_n (lv' := [(2, .int (iz v17)), (0, .ref (X.2.2 c0)), (1, .int (iz x1))]) C.1.1 C.1.2.1 dX0_reverse_18 rfl hl (by decide) rfl (fun ls hl => ?_)
      refine lv_aload_n C.1.1 C.1.2.1 dX0_reverse_19 rfl (lv_at hl 1 rfl) ?_
      refine r_getR (k := 0) C hw (is0_s i0) (is0_l i0) cO0 rfl (by decide) tw1_85 rfl dX0_reverse_20 ?_
      refine lv_iload_n C.1.1 C.1.2.1 dX0_reverse_23 rfl (lv_at hl 2 rfl) ?_
      refine lv_aload_n C.1.1 C.1.2.1 dX0_reverse_24 rfl (lv_at hl 1 rfl) ?_
      refine r_getR (k := 0) C hw (is0_s i0) (is0_l i0) cO0 rfl (by decide) tw1_85 rfl dX0_reverse_25 ?_
      refine lv_aload_n C.1.1 C.1.2.1 dX0_reverse_28 rfl (lv_at hl 1 rfl) ?_
      refine r_getI (k := 1) C hw (is0_s i0) (is0_l i0) cO0 rfl (by decide) tw1_89 rfl dX0_reverse_29 hf (fun v29 hf => ?_)
      refine r_iconst (v := 1) C dX0_reverse_32 ?_
      refine r_isub C dX0_reverse_33 ?_
      refine lv_iload_n C.1.1 C.1.2.1 dX0_reverse_34 rfl (lv_at hl 2 rfl) ?_
      refine r_isub C dX0_reverse_35 ?_
      refine r_iald C hw (is0_s1 i0) (is0_l1 i0) (Nat.le_of_ble_eq_true rfl) dX0_reverse_36 hf (fun v36 hf => ?_)
      refine r_iast C hw (is0_s1 i0) (is0_l1 i0) (Nat.le_of_ble_eq_true rfl) dX0_reverse_37 hf (fun S37 H locs hf hw => ?_)
      refine lv_aload_n C.1.1 C.1.2.1 dX0_reverse_38 rfl (lv_at hl 1 rfl) ?_
      refine r_getR (k := 0) C hw (is0_s i0) (is0_l i0) cO0 rfl (by decide) tw1_85 rfl dX0_reverse_39 ?_
      refine lv_aload_n C.1.1 C.1.2.1 dX0_reverse_42 rfl (lv_at hl 1 rfl) ?_
      refine r_getI (k := 1) C hw (is0_s i0) (is0_l i0) cO0 rfl (by decide) tw1_89 rfl dX0_reverse_43 hf (fun v43 hf => ?_)
      refine r_iconst (v := 1) C dX0_reverse_46 ?_
      refine r_isub C dX0_reverse_47 ?_
      refine lv_iload_n C.1.1 C.1.2.1 dX0_reverse_48 rfl (lv_at hl 2 rfl) ?_
      refine r_isub C dX0_reverse_49 ?_
      refine lv_iload_n C.1.1 C.1.2.1 dX0_reverse_50 rfl (lv_at hl 0 rfl) ?_
      refine r_iast C hw (is0_s1 i0) (is0_l1 i0) (Nat.le_of_ble_eq_true rfl) dX0_reverse_51 hf (fun S51 H locs hf hw => ?_)
      refine lv_iinc (v := iz (x1 + 1)) (lv' := [(1, .int (iz (x1 + 1))), (2, .int (iz v17)), (0, .ref (X.2.2 c0))]) C.1.1 C.1.2.1 dX0_reverse_52 hl (k := 2) rfl (iz_add _ _) (by decide) rfl (fun ls hl => ?_)
      refine lv_goto (tgt := 2) C.1.1 C.1.2.1 dX0_reverse_55 (by decide) ?_
      exact ih (x1 + 1) S51 H locs ls hf hw (lv_sub hl [2, 0] rfl)
set_option maxRecDepth 100000 in
set_option maxHeartbeats 4000000 in
theorem c_X0_reverse (l : Launch) (X : XT) (hinj : XInj X nC) (hZ : ZOK (Zc X)) (N : Nat) (S : S2) (c0 : Nat) (i0 : Is0 c0) (out : Int × S2) (hf : f_X0_reverse N S c0 = some out) : MI l X shC nC (Zc X) yX0_reverse cX0_reverse 3 (some .int) rmX0_reverse [.ref (X.2.2 c0)] S out := by
  refine met_I (own := RX0) (by decide) rfl hinj hZ (Nat.le_of_ble_eq_true rfl) (fun p e s m args below meth c C ls H locs hw hl => ?_)
  unfold f_X0_reverse at hf
  have hl : lv_has ls 3 [(0, .ref (X.2.2 c0))] := hl
  refine r_iconst (v := 0) C dX0_reverse_0 ?_
  refine lv_istore_n (lv' := [(1, .int (iz 0)), (0, .ref (X.2.2 c0))]) C.1.1 C.1.2.1 dX0_reverse_1 rfl hl (by decide) rfl (fun ls hl => ?_)
  exact (w_X0_reverse_2 l hinj hZ C out c0 i0 (f_X0_reverse_58 c0 N) (w_X0_reverse_58 l hinj hZ C out c0 i0 N) N) 0 S H locs ls hf hw (lv_sub hl [1, 0] rfl)
def f_X0_cap_32 (c0 : Nat) (k4 : Int → Int → Int → S2 → Option (Int × S2)) (N : Nat) (x1 : Int) (x2 : Int) (x3 : Int) (S : S2) : Option (Int × S2) := k4 x1 x2 (x3 + 1) S
def f_X0_cap_4 (c0 : Nat) : Nat → Int → Int → Int → S2 → Option (Int × S2)
  | 0, _, _, _, _ => none
  | N + 1, x1, x2, x3, S => gI S c0 1 fun v6 => cI x3 v6 (if v6 ≤ x3 then rI x2 S else aI S (c0 + 1) 48 x3 fun v17 => cI v17 x1 (if v17 ≤ x1 then (f_X0_cap_32 c0 (f_X0_cap_4 c0 N) N) x1 x2 x3 S else sI S (c0 + 1) 48 x3 x1 fun S28 => (f_X0_cap_32 c0 (f_X0_cap_4 c0 N) N) x1 (x2 + 1) x3 S28))
def f_X0_cap (N : Nat) (S : S2) (c0 : Nat) (a1 : Int) : Option (Int × S2) := (f_X0_cap_4 c0 N) a1 0 0 S
abbrev rmX0_cap : Room := { frames := 0, cells := 0, slots := 0, locals := 0 }
theorem hd_X0_cap : yX0_cap.cls ≠ "java/lang/invoke/MethodHandle" ∧ yX0_cap.cls ≠ "java/lang/invoke/VarHandle" ∧ (parseMethodDescriptor yX0_cap.desc).map (fun d => d.parameters.length) = some 1 := by decide +kernel
set_option maxRecDepth 100000 in
set_option maxHeartbeats 4000000 in
theorem w_X0_cap_32 {p : Program} (l : Launch) {e : Env} {s : State} {m : MethodId} {args : Array Value} {below : List Frame} {meth : Method} {c : Code} {X : XT} (hinj : XInj X nC) (hZ : ZOK (Zc X)) (C : CX p s m args meth c cX0_cap 4 RX0 (some .int) X nC (Zc X)) (out : Int × S2) (c0 : Nat) (i0 : Is0 c0) (k4 : Int → Int → Int → S2 → Option (Int × S2)) (hk4 : ∀ (x1 : Int) (x2 : Int) (x3 : Int) (S : S2) (H : Heap) (locs : List Loc) (ls : Array Slot), k4 x1 x2 x3 S = some out → WH X shC nC s S H locs → lv_has ls 4 [(0, .ref (X.2.2 c0)), (1, .int (iz x1)), (2, .int (iz x2)), (3, .int (iz x3))] → W p l e rmX0_cap s m args below meth c H locs 0 0 (QI X shC nC s args below out) (F0 m 4 ls [])) : ∀ (N : Nat), ∀ (x1 : Int) (x2 : Int) (x3 : Int) (S : S2) (H : Heap) (locs : List Loc) (ls : Array Slot), f_X0_cap_32 c0 k4 N x1 x2 x3 S = some out → WH X shC nC s S H locs → lv_has ls 4 [(0, .ref (X.2.2 c0)), (1, .int (iz x1)), (2, .int (iz x2)), (3, .int (iz x3))] → W p l e rmX0_cap s m args below meth c H locs 0 0 (QI X shC nC s args below out) (F0 m 32 ls []) := by
  intro N x1 x2 x3 S H locs ls hf hw hl
  unfold f_X0_cap_32 at hf
  refine lv_iinc (v := iz (x3 + 1)) (lv' := [(3, .int (iz (x3 + 1))), (0, .ref (X.2.2 c0)), (1, .int (iz x1)), (2, .int (iz x2))]) C.1.1 C.1.2.1 dX0_cap_32 hl (k := 3) rfl (iz_add _ _) (by decide) rfl (fun ls hl => ?_)
  refine lv_goto (tgt := 4) C.1.1 C.1.2.1 dX0_cap_35 (by decide) ?_
  exact hk4 x1 x2 (x3 + 1) S H locs ls hf hw (lv_sub hl [1, 2, 3, 0] rfl)
set_option maxRecDepth 100000 in
set_option maxHeartbeats 4000000 in
theorem w_X0_cap_4 {p : Program} (l : Launch) {e : Env} {s : State} {m : MethodId} {args : Array Value} {below : List Frame} {meth : Method} {c : Code} {X : XT} (hinj : XInj X nC) (hZ : ZOK (Zc X)) (C : CX p s m args meth c cX0_cap 4 RX0 (some .int) X nC (Zc X)) (out : Int × S2) (c0 : Nat) (i0 : Is0 c0) : ∀ (N : Nat), ∀ (x1 : Int) (x2 : Int) (x3 : Int) (S : S2) (H : Heap) (locs : List Loc) (ls : Array Slot), f_X0_cap_4 c0 N x1 x2 x3 S = some out → WH X shC nC s S H locs → lv_has ls 4 [(0, .ref (X.2.2 c0)), (1, .int (iz x1)), (2, .int (iz x2)), (3, .int (iz x3))] → W p l e rmX0_cap s m args below meth c H locs 0 0 (QI X shC nC s args below out) (F0 m 4 ls []) := by
  intro N
  induction N with
  | zero => intro x1 x2 x3 S H locs ls hf hw hl; cases hf
  | succ N ih =>
    intro x1 x2 x3 S H locs ls hf hw hl
    rw [f_X0_cap_4.eq_2] at hf
    refine lv_iload_n C.1.1 C.1.2.1 dX0_cap_4 rfl (lv_at hl 3 rfl) ?_
    refine lv_aload_n C.1.1 C.1.2.1 dX0_cap_5 rfl (lv_at hl 0 rfl) ?_
    refine r_getI (k := 1) C hw (is0_s i0) (is0_l i0) cO0 rfl (by decide) tw1_89 rfl dX0_cap_6 hf (fun v6 hf => ?_)
    refine r_icmp_ge C (tgt := 38) dX0_cap_9 (by decide) hf (fun hf => ?_) (fun hf => ?_)
    · refine lv_iload_n C.1.1 C.1.2.1 dX0_cap_38 rfl (lv_at hl 2 rfl) ?_
      exact r_retI C hw dX0_cap_39 hf
    · refine lv_aload_n C.1.1 C.1.2.1 dX0_cap_12 rfl (lv_at hl 0 rfl) ?_
      refine r_getR (k := 0) C hw (is0_s i0) (is0_l i0) cO0 rfl (by decide) tw1_85 rfl dX0_cap_13 ?_
      refine lv_iload_n C.1.1 C.1.2.1 dX0_cap_16 rfl (lv_at hl 3 rfl) ?_
      refine r_iald C hw (is0_s1 i0) (is0_l1 i0) (Nat.le_of_ble_eq_true rfl) dX0_cap_17 hf (fun v17 hf => ?_)
      refine lv_iload_n C.1.1 C.1.2.1 dX0_cap_18 rfl (lv_at hl 1 rfl) ?_
      refine r_icmp_le C (tgt := 32) dX0_cap_19 (by decide) hf (fun hf => ?_) (fun hf => ?_)
      · exact (w_X0_cap_32 l hinj hZ C out c0 i0 (f_X0_cap_4 c0 N) ih N) x1 x2 x3 S H locs ls hf hw (lv_sub hl [0, 1, 2, 3] rfl)
      · refine lv_aload_n C.1.1 C.1.2.1 dX0_cap_22 rfl (lv_at hl 0 rfl) ?_
        refine r_getR (k := 0) C hw (is0_s i0) (is0_l i0) cO0 rfl (by decide) tw1_85 rfl dX0_cap_23 ?_
        refine lv_iload_n C.1.1 C.1.2.1 dX0_cap_26 rfl (lv_at hl 3 rfl) ?_
        refine lv_iload_n C.1.1 C.1.2.1 dX0_cap_27 rfl (lv_at hl 1 rfl) ?_
        refine r_iast C hw (is0_s1 i0) (is0_l1 i0) (Nat.le_of_ble_eq_true rfl) dX0_cap_28 hf (fun S28 H locs hf hw => ?_)
        refine lv_iinc (v := iz (x2 + 1)) (lv' := [(2, .int (iz (x2 + 1))), (0, .ref (X.2.2 c0)), (1, .int (iz x1)), (3, .int (iz x3))]) C.1.1 C.1.2.1 dX0_cap_29 hl (k := 2) rfl (iz_add _ _) (by decide) rfl (fun ls hl => ?_)
        exact (w_X0_cap_32 l hinj hZ C out c0 i0 (f_X0_cap_4 c0 N) ih N) x1 (x2 + 1) x3 S28 H locs ls hf hw (lv_sub hl [1, 2, 0, 3] rfl)
set_option maxRecDepth 100000 in
set_option maxHeartbeats 4000000 in
theorem c_X0_cap (l : Launch) (X : XT) (hinj : XInj X nC) (hZ : ZOK (Zc X)) (N : Nat) (S : S2) (c0 : Nat) (a1 : Int) (i0 : Is0 c0) (out : Int × S2) (hf : f_X0_cap N S c0 a1 = some out) : MI l X shC nC (Zc X) yX0_cap cX0_cap 4 (some .int) rmX0_cap [.ref (X.2.2 c0), .int (iz a1)] S out := by
  refine met_I (own := RX0) (by decide) rfl hinj hZ (Nat.le_of_ble_eq_true rfl) (fun p e s m args below meth c C ls H locs hw hl => ?_)
  unfold f_X0_cap at hf
  have hl : lv_has ls 4 [(0, .ref (X.2.2 c0)), (1, .int (iz a1))] := hl
  refine r_iconst (v := 0) C dX0_cap_0 ?_
  refine lv_istore_n (lv' := [(2, .int (iz 0)), (0, .ref (X.2.2 c0)), (1, .int (iz a1))]) C.1.1 C.1.2.1 dX0_cap_1 rfl hl (by decide) rfl (fun ls hl => ?_)
  refine r_iconst (v := 0) C dX0_cap_2 ?_
  refine lv_istore_n (lv' := [(3, .int (iz 0)), (2, .int (iz 0)), (0, .ref (X.2.2 c0)), (1, .int (iz a1))]) C.1.1 C.1.2.1 dX0_cap_3 rfl hl (by decide) rfl (fun ls hl => ?_)
  exact (w_X0_cap_4 l hinj hZ C out c0 i0 N) a1 0 0 S H locs ls hf hw (lv_sub hl [2, 3, 1, 0] rfl)
def f_X0_raise_40 (c0 : Nat) (N : Nat) (S : S2) : Option (Int × S2) := bI (f_X0_leastSample N S c0) fun v41 S41 => rI v41 S41
def f_X0_raise_2 (c0 : Nat) (k40 : S2 → Option (Int × S2)) : Nat → Int → Int → S2 → Option (Int × S2)
  | 0, _, _, _ => none
  | N + 1, x1, x2, S => gI S c0 1 fun v4 => cI x2 v4 (if v4 ≤ x2 then k40 S else aI S (c0 + 1) 48 x2 fun v24 => mnI 999 (v24 + x1) fun v27 => mxI 0 v27 fun v30 => sI S (c0 + 1) 48 x2 v30 fun S33 => (f_X0_raise_2 c0 k40 N) x1 (x2 + 1) S33)
def f_X0_raise (N : Nat) (S : S2) (c0 : Nat) (a1 : Int) : Option (Int × S2) := (f_X0_raise_2 c0 (f_X0_raise_40 c0 N) N) a1 0 S
abbrev rmX0_raise : Room := { frames := 2, cells := 0, slots := 0, locals := 43 }
theorem hd_X0_raise : yX0_raise.cls ≠ "java/lang/invoke/MethodHandle" ∧ yX0_raise.cls ≠ "java/lang/invoke/VarHandle" ∧ (parseMethodDescriptor yX0_raise.desc).map (fun d => d.parameters.length) = some 1 := by decide +kernel
set_option maxRecDepth 100000 in
set_option maxHeartbeats 4000000 in
theorem w_X0_raise_40 {p : Program} (l : Launch) {e : Env} {s : State} {m : MethodId} {args : Array Value} {below : List Frame} {meth : Method} {c : Code} {X : XT} (hinj : XInj X nC) (hZ : ZOK (Zc X)) (C : CX p s m args meth c cX0_raise 3 RX0 (some .int) X nC (Zc X)) (out : Int × S2) (c0 : Nat) (i0 : Is0 c0) : ∀ (N : Nat), ∀ (S : S2) (H : Heap) (locs : List Loc) (ls : Array Slot), f_X0_raise_40 c0 N S = some out → WH X shC nC s S H locs → lv_has ls 3 [(0, .ref (X.2.2 c0))] → W p l e rmX0_raise s m args below meth c H locs 0 0 (QI X shC nC s args below out) (F0 m 40 ls []) := by
  intro N S H locs ls hf hw hl
  unfold f_X0_raise_40 at hf
  refine lv_aload_n C.1.1 C.1.2.1 dX0_raise_40 rfl (lv_at hl 0 rfl) ?_
  refine r_callI (As := []) (rest := []) (rm := rmX0_leastSample) C hw (is0_s i0) (is0_l i0) cO0 tw4_45 tw3_138 tw3_139 tw1_4 tw3_140 hd_X0_leastSample rfl ⟨⟨rfl, rfl⟩, Nat.le_of_ble_eq_true rfl, Nat.le_of_ble_eq_true rfl⟩ hl.1 rfl (Nat.le_of_ble_eq_true rfl) dX0_raise_41 hf (fun o ho => c_X0_leastSample l X hinj hZ N S c0 i0 o ho) (fun v41 S41 H locs hf hw => ?_)
  exact r_retI C hw dX0_raise_44 hf
set_option maxRecDepth 100000 in
set_option maxHeartbeats 4000000 in
theorem w_X0_raise_2 {p : Program} (l : Launch) {e : Env} {s : State} {m : MethodId} {args : Array Value} {below : List Frame} {meth : Method} {c : Code} {X : XT} (hinj : XInj X nC) (hZ : ZOK (Zc X)) (C : CX p s m args meth c cX0_raise 3 RX0 (some .int) X nC (Zc X)) (out : Int × S2) (c0 : Nat) (i0 : Is0 c0) (k40 : S2 → Option (Int × S2)) (hk40 : ∀ (S : S2) (H : Heap) (locs : List Loc) (ls : Array Slot), k40 S = some out → WH X shC nC s S H locs → lv_has ls 3 [(0, .ref (X.2.2 c0))] → W p l e rmX0_raise s m args below meth c H locs 0 0 (QI X shC nC s args below out) (F0 m 40 ls [])) : ∀ (N : Nat), ∀ (x1 : Int) (x2 : Int) (S : S2) (H : Heap) (locs : List Loc) (ls : Array Slot), f_X0_raise_2 c0 k40 N x1 x2 S = some out → WH X shC nC s S H locs → lv_has ls 3 [(0, .ref (X.2.2 c0)), (1, .int (iz x1)), (2, .int (iz x2))] → W p l e rmX0_raise s m args below meth c H locs 0 0 (QI X shC nC s args below out) (F0 m 2 ls []) := by
  intro N
  induction N with
  | zero => intro x1 x2 S H locs ls hf hw hl; cases hf
  | succ N ih =>
    intro x1 x2 S H locs ls hf hw hl
    rw [f_X0_raise_2.eq_2] at hf
    refine lv_iload_n C.1.1 C.1.2.1 dX0_raise_2 rfl (lv_at hl 2 rfl) ?_
    refine lv_aload_n C.1.1 C.1.2.1 dX0_raise_3 rfl (lv_at hl 0 rfl) ?_
    refine r_getI (k := 1) C hw (is0_s i0) (is0_l i0) cO0 rfl (by decide) tw1_89 rfl dX0_raise_4 hf (fun v4 hf => ?_)
    refine r_icmp_ge C (tgt := 40) dX0_raise_7 (by decide) hf (fun hf => ?_) (fun hf => ?_)
    · exact hk40 S H locs ls hf hw (lv_sub hl [0] rfl)
    · refine lv_aload_n C.1.1 C.1.2.1 dX0_raise_10 rfl (lv_at hl 0 rfl) ?_
      refine r_getR (k := 0) C hw (is0_s i0) (is0_l i0) cO0 rfl (by decide) tw1_85 rfl dX0_raise_11 ?_
      refine lv_iload_n C.1.1 C.1.2.1 dX0_raise_14 rfl (lv_at hl 2 rfl) ?_
      refine r_iconst (v := 0) C dX0_raise_15 ?_
      refine r_sipush (v := 999) C dX0_raise_16 (by decide) ?_
      refine lv_aload_n C.1.1 C.1.2.1 dX0_raise_19 rfl (lv_at hl 0 rfl) ?_
      refine r_getR (k := 0) C hw (is0_s i0) (is0_l i0) cO0 rfl (by decide) tw1_85 rfl dX0_raise_20 ?_
      refine lv_iload_n C.1.1 C.1.2.1 dX0_raise_23 rfl (lv_at hl 2 rfl) ?_
      refine r_iald C hw (is0_s1 i0) (is0_l1 i0) (Nat.le_of_ble_eq_true rfl) dX0_raise_24 hf (fun v24 hf => ?_)
      refine lv_iload_n C.1.1 C.1.2.1 dX0_raise_25 rfl (lv_at hl 1 rfl) ?_
      refine r_iadd C dX0_raise_26 ?_
      refine r_min C tw3_141 tw3_83 tw1_18 tw3_84 hl.1 (Nat.le_of_ble_eq_true rfl) (Nat.le_of_ble_eq_true rfl) dX0_raise_27 hf (fun v27 hf => ?_)
      refine r_max C tw4_23 tw3_86 tw1_18 tw3_87 hl.1 (Nat.le_of_ble_eq_true rfl) (Nat.le_of_ble_eq_true rfl) dX0_raise_30 hf (fun v30 hf => ?_)
      refine r_iast C hw (is0_s1 i0) (is0_l1 i0) (Nat.le_of_ble_eq_true rfl) dX0_raise_33 hf (fun S33 H locs hf hw => ?_)
      refine lv_iinc (v := iz (x2 + 1)) (lv' := [(2, .int (iz (x2 + 1))), (0, .ref (X.2.2 c0)), (1, .int (iz x1))]) C.1.1 C.1.2.1 dX0_raise_34 hl (k := 2) rfl (iz_add _ _) (by decide) rfl (fun ls hl => ?_)
      refine lv_goto (tgt := 2) C.1.1 C.1.2.1 dX0_raise_37 (by decide) ?_
      exact ih x1 (x2 + 1) S33 H locs ls hf hw (lv_sub hl [1, 2, 0] rfl)
set_option maxRecDepth 100000 in
set_option maxHeartbeats 4000000 in
theorem c_X0_raise (l : Launch) (X : XT) (hinj : XInj X nC) (hZ : ZOK (Zc X)) (N : Nat) (S : S2) (c0 : Nat) (a1 : Int) (i0 : Is0 c0) (out : Int × S2) (hf : f_X0_raise N S c0 a1 = some out) : MI l X shC nC (Zc X) yX0_raise cX0_raise 3 (some .int) rmX0_raise [.ref (X.2.2 c0), .int (iz a1)] S out := by
  refine met_I (own := RX0) (by decide) rfl hinj hZ (Nat.le_of_ble_eq_true rfl) (fun p e s m args below meth c C ls H locs hw hl => ?_)
  unfold f_X0_raise at hf
  have hl : lv_has ls 3 [(0, .ref (X.2.2 c0)), (1, .int (iz a1))] := hl
  refine r_iconst (v := 0) C dX0_raise_0 ?_
  refine lv_istore_n (lv' := [(2, .int (iz 0)), (0, .ref (X.2.2 c0)), (1, .int (iz a1))]) C.1.1 C.1.2.1 dX0_raise_1 rfl hl (by decide) rfl (fun ls hl => ?_)
  exact (w_X0_raise_2 l hinj hZ C out c0 i0 (f_X0_raise_40 c0 N) (w_X0_raise_40 l hinj hZ C out c0 i0 N) N) a1 0 S H locs ls hf hw (lv_sub hl [1, 2, 0] rfl)
def f_X0_stretch_42 (c0 : Nat) (N : Nat) (S : S2) : Option (Int × S2) := bI (f_X0_greatestSample N S c0) fun v43 S43 => rI v43 S43
def f_X0_stretch_2 (c0 : Nat) (k42 : S2 → Option (Int × S2)) : Nat → Int → Int → Int → S2 → Option (Int × S2)
  | 0, _, _, _, _ => none
  | N + 1, x1, x2, x3, S => cI x2 0 (if x2 ≤ 0 then k42 S else gI S c0 1 fun v8 => cI x3 v8 (if v8 ≤ x3 then k42 S else aI S (c0 + 1) 48 x3 fun v27 => dvI (v27 * x1) x2 fun v31 => mnI 999 v31 fun v32 => sI S (c0 + 1) 48 x3 v32 fun S35 => (f_X0_stretch_2 c0 k42 N) x1 x2 (x3 + 1) S35))
def f_X0_stretch (N : Nat) (S : S2) (c0 : Nat) (a1 : Int) (a2 : Int) : Option (Int × S2) := (f_X0_stretch_2 c0 (f_X0_stretch_42 c0 N) N) a1 a2 0 S
abbrev rmX0_stretch : Room := { frames := 2, cells := 0, slots := 0, locals := 43 }
theorem hd_X0_stretch : yX0_stretch.cls ≠ "java/lang/invoke/MethodHandle" ∧ yX0_stretch.cls ≠ "java/lang/invoke/VarHandle" ∧ (parseMethodDescriptor yX0_stretch.desc).map (fun d => d.parameters.length) = some 2 := by decide +kernel
set_option maxRecDepth 100000 in
set_option maxHeartbeats 4000000 in
theorem w_X0_stretch_42 {p : Program} (l : Launch) {e : Env} {s : State} {m : MethodId} {args : Array Value} {below : List Frame} {meth : Method} {c : Code} {X : XT} (hinj : XInj X nC) (hZ : ZOK (Zc X)) (C : CX p s m args meth c cX0_stretch 4 RX0 (some .int) X nC (Zc X)) (out : Int × S2) (c0 : Nat) (i0 : Is0 c0) : ∀ (N : Nat), ∀ (S : S2) (H : Heap) (locs : List Loc) (ls : Array Slot), f_X0_stretch_42 c0 N S = some out → WH X shC nC s S H locs → lv_has ls 4 [(0, .ref (X.2.2 c0))] → W p l e rmX0_stretch s m args below meth c H locs 0 0 (QI X shC nC s args below out) (F0 m 42 ls []) := by
  intro N S H locs ls hf hw hl
  unfold f_X0_stretch_42 at hf
  refine lv_aload_n C.1.1 C.1.2.1 dX0_stretch_42 rfl (lv_at hl 0 rfl) ?_
  refine r_callI (As := []) (rest := []) (rm := rmX0_greatestSample) C hw (is0_s i0) (is0_l i0) cO0 tw4_50 tw4_51 tw4_52 tw1_4 tw4_53 hd_X0_greatestSample rfl ⟨⟨rfl, rfl⟩, Nat.le_of_ble_eq_true rfl, Nat.le_of_ble_eq_true rfl⟩ hl.1 rfl (Nat.le_of_ble_eq_true rfl) dX0_stretch_43 hf (fun o ho => c_X0_greatestSample l X hinj hZ N S c0 i0 o ho) (fun v43 S43 H locs hf hw => ?_)
  exact r_retI C hw dX0_stretch_46 hf
set_option maxRecDepth 100000 in
set_option maxHeartbeats 4000000 in
theorem w_X0_stretch_2 {p : Program} (l : Launch) {e : Env} {s : State} {m : MethodId} {args : Array Value} {below : List Frame} {meth : Method} {c : Code} {X : XT} (hinj : XInj X nC) (hZ : ZOK (Zc X)) (C : CX p s m args meth c cX0_stretch 4 RX0 (some .int) X nC (Zc X)) (out : Int × S2) (c0 : Nat) (i0 : Is0 c0) (k42 : S2 → Option (Int × S2)) (hk42 : ∀ (S : S2) (H : Heap) (locs : List Loc) (ls : Array Slot), k42 S = some out → WH X shC nC s S H locs → lv_has ls 4 [(0, .ref (X.2.2 c0))] → W p l e rmX0_stretch s m args below meth c H locs 0 0 (QI X shC nC s args below out) (F0 m 42 ls [])) : ∀ (N : Nat), ∀ (x1 : Int) (x2 : Int) (x3 : Int) (S : S2) (H : Heap) (locs : List Loc) (ls : Array Slot), f_X0_stretch_2 c0 k42 N x1 x2 x3 S = some out → WH X shC nC s S H locs → lv_has ls 4 [(0, .ref (X.2.2 c0)), (1, .int (iz x1)), (2, .int (iz x2)), (3, .int (iz x3))] → W p l e rmX0_stretch s m args below meth c H locs 0 0 (QI X shC nC s args below out) (F0 m 2 ls []) := by
  intro N
  induction N with
  | zero => intro x1 x2 x3 S H locs ls hf hw hl; cases hf
  | succ N ih =>
    intro x1 x2 x3 S H locs ls hf hw hl
    rw [f_X0_stretch_2.eq_2] at hf
    refine lv_iload_n C.1.1 C.1.2.1 dX0_stretch_2 rfl (lv_at hl 2 rfl) ?_
    refine r_if_le C (tgt := 42) dX0_stretch_3 (by decide) hf (fun hf => ?_) (fun hf => ?_)
    · exact hk42 S H locs ls hf hw (lv_sub hl [0] rfl)
    · refine lv_iload_n C.1.1 C.1.2.1 dX0_stretch_6 rfl (lv_at hl 3 rfl) ?_
      refine lv_aload_n C.1.1 C.1.2.1 dX0_stretch_7 rfl (lv_at hl 0 rfl) ?_
      refine r_getI (k := 1) C hw (is0_s i0) (is0_l i0) cO0 rfl (by decide) tw1_89 rfl dX0_stretch_8 hf (fun v8 hf => ?_)
      refine r_icmp_ge C (tgt := 42) dX0_stretch_11 (by decide) hf (fun hf => ?_) (fun hf => ?_)
      · exact hk42 S H locs ls hf hw (lv_sub hl [0] rfl)
      · refine lv_aload_n C.1.1 C.1.2.1 dX0_stretch_14 rfl (lv_at hl 0 rfl) ?_
        refine r_getR (k := 0) C hw (is0_s i0) (is0_l i0) cO0 rfl (by decide) tw1_85 rfl dX0_stretch_15 ?_
        refine lv_iload_n C.1.1 C.1.2.1 dX0_stretch_18 rfl (lv_at hl 3 rfl) ?_
        refine r_sipush (v := 999) C dX0_stretch_19 (by decide) ?_
        refine lv_aload_n C.1.1 C.1.2.1 dX0_stretch_22 rfl (lv_at hl 0 rfl) ?_
        refine r_getR (k := 0) C hw (is0_s i0) (is0_l i0) cO0 rfl (by decide) tw1_85 rfl dX0_stretch_23 ?_
        refine lv_iload_n C.1.1 C.1.2.1 dX0_stretch_26 rfl (lv_at hl 3 rfl) ?_
        refine r_iald C hw (is0_s1 i0) (is0_l1 i0) (Nat.le_of_ble_eq_true rfl) dX0_stretch_27 hf (fun v27 hf => ?_)
        refine lv_iload_n C.1.1 C.1.2.1 dX0_stretch_28 rfl (lv_at hl 1 rfl) ?_
        refine r_imul C dX0_stretch_29 ?_
        refine lv_iload_n C.1.1 C.1.2.1 dX0_stretch_30 rfl (lv_at hl 2 rfl) ?_
        refine r_idiv C dX0_stretch_31 hf (fun v31 hf => ?_)
        refine r_min C tw3_141 tw3_83 tw1_18 tw3_84 hl.1 (Nat.le_of_ble_eq_true rfl) (Nat.le_of_ble_eq_true rfl) dX0_stretch_32 hf (fun v32 hf => ?_)
        refine r_iast C hw (is0_s1 i0) (is0_l1 i0) (Nat.le_of_ble_eq_true rfl) dX0_stretch_35 hf (fun S35 H locs hf hw => ?_)
        refine lv_iinc (v := iz (x3 + 1)) (lv' := [(3, .int (iz (x3 + 1))), (0, .ref (X.2.2 c0)), (1, .int (iz x1)), (2, .int (iz x2))]) C.1.1 C.1.2.1 dX0_stretch_36 hl (k := 3) rfl (iz_add _ _) (by decide) rfl (fun ls hl => ?_)
        refine lv_goto (tgt := 2) C.1.1 C.1.2.1 dX0_stretch_39 (by decide) ?_
        exact ih x1 x2 (x3 + 1) S35 H locs ls hf hw (lv_sub hl [1, 2, 3, 0] rfl)
set_option maxRecDepth 100000 in
set_option maxHeartbeats 4000000 in
theorem c_X0_stretch (l : Launch) (X : XT) (hinj : XInj X nC) (hZ : ZOK (Zc X)) (N : Nat) (S : S2) (c0 : Nat) (a1 : Int) (a2 : Int) (i0 : Is0 c0) (out : Int × S2) (hf : f_X0_stretch N S c0 a1 a2 = some out) : MI l X shC nC (Zc X) yX0_stretch cX0_stretch 4 (some .int) rmX0_stretch [.ref (X.2.2 c0), .int (iz a1), .int (iz a2)] S out := by
  refine met_I (own := RX0) (by decide) rfl hinj hZ (Nat.le_of_ble_eq_true rfl) (fun p e s m args below meth c C ls H locs hw hl => ?_)
  unfold f_X0_stretch at hf
  have hl : lv_has ls 4 [(0, .ref (X.2.2 c0)), (1, .int (iz a1)), (2, .int (iz a2))] := hl
  refine r_iconst (v := 0) C dX0_stretch_0 ?_
  refine lv_istore_n (lv' := [(3, .int (iz 0)), (0, .ref (X.2.2 c0)), (1, .int (iz a1)), (2, .int (iz a2))]) C.1.1 C.1.2.1 dX0_stretch_1 rfl hl (by decide) rfl (fun ls hl => ?_)
  exact (w_X0_stretch_2 l hinj hZ C out c0 i0 (f_X0_stretch_42 c0 N) (w_X0_stretch_42 l hinj hZ C out c0 i0 N) N) a1 a2 0 S H locs ls hf hw (lv_sub hl [1, 2, 3, 0] rfl)
def f_X0_put (N : Nat) (S : S2) (c0 : Nat) (a1 : Int) (a2 : Int) : Option (Int × S2) := bI (f_X0_has N S c0 a1) fun v2 S2 => cI v2 0 (if v2 = 0 then rI (-1) S2 else aI S2 (c0 + 1) 48 a1 fun v15 => sI S2 (c0 + 1) 48 a1 a2 fun S23 => rI v15 S23)
abbrev rmX0_put : Room := { frames := 1, cells := 0, slots := 0, locals := 21 }
theorem hd_X0_put : yX0_put.cls ≠ "java/lang/invoke/MethodHandle" ∧ yX0_put.cls ≠ "java/lang/invoke/VarHandle" ∧ (parseMethodDescriptor yX0_put.desc).map (fun d => d.parameters.length) = some 2 := by decide +kernel
set_option maxRecDepth 100000 in
set_option maxHeartbeats 4000000 in
theorem c_X0_put (l : Launch) (X : XT) (hinj : XInj X nC) (hZ : ZOK (Zc X)) (N : Nat) (S : S2) (c0 : Nat) (a1 : Int) (a2 : Int) (i0 : Is0 c0) (out : Int × S2) (hf : f_X0_put N S c0 a1 a2 = some out) : MI l X shC nC (Zc X) yX0_put cX0_put 4 (some .int) rmX0_put [.ref (X.2.2 c0), .int (iz a1), .int (iz a2)] S out := by
  refine met_I (own := RX0) (by decide) rfl hinj hZ (Nat.le_of_ble_eq_true rfl) (fun p e s m args below meth c C ls H locs hw hl => ?_)
  unfold f_X0_put at hf
  have hl : lv_has ls 4 [(0, .ref (X.2.2 c0)), (1, .int (iz a1)), (2, .int (iz a2))] := hl
  refine lv_aload_n C.1.1 C.1.2.1 dX0_put_0 rfl (lv_at hl 0 rfl) ?_
  refine lv_iload_n C.1.1 C.1.2.1 dX0_put_1 rfl (lv_at hl 1 rfl) ?_
  refine r_callI (As := [.int (iz a1)]) (rest := []) (rm := rmX0_has) C hw (is0_s i0) (is0_l i0) cO0 tw3_174 tw3_151 tw3_152 tw1_4 tw3_153 hd_X0_has rfl ⟨⟨rfl, rfl⟩, Nat.le_of_ble_eq_true rfl, Nat.le_of_ble_eq_true rfl⟩ hl.1 rfl (Nat.le_of_ble_eq_true rfl) dX0_put_2 hf (fun o ho => c_X0_has l X hinj hZ N S c0 a1 i0 o ho) (fun v2 S2 H locs hf hw => ?_)
  refine r_if_ne C (tgt := 10) dX0_put_5 (by decide) hf (fun hf => ?_) (fun hf => ?_)
  · refine lv_aload_n C.1.1 C.1.2.1 dX0_put_10 rfl (lv_at hl 0 rfl) ?_
    refine r_getR (k := 0) C hw (is0_s i0) (is0_l i0) cO0 rfl (by decide) tw1_85 rfl dX0_put_11 ?_
    refine lv_iload_n C.1.1 C.1.2.1 dX0_put_14 rfl (lv_at hl 1 rfl) ?_
    refine r_iald C hw (is0_s1 i0) (is0_l1 i0) (Nat.le_of_ble_eq_true rfl) dX0_put_15 hf (fun v15 hf => ?_)
    refine lv_istore_n (lv' := [(3, .int (iz v15)), (0, .ref (X.2.2 c0)), (1, .int (iz a1)), (2, .int (iz a2))]) C.1.1 C.1.2.1 dX0_put_16 rfl hl (by decide) rfl (fun ls hl => ?_)
    refine lv_aload_n C.1.1 C.1.2.1 dX0_put_17 rfl (lv_at hl 1 rfl) ?_
    refine r_getR (k := 0) C hw (is0_s i0) (is0_l i0) cO0 rfl (by decide) tw1_85 rfl dX0_put_18 ?_
    refine lv_iload_n C.1.1 C.1.2.1 dX0_put_21 rfl (lv_at hl 2 rfl) ?_
    refine lv_iload_n C.1.1 C.1.2.1 dX0_put_22 rfl (lv_at hl 3 rfl) ?_
    refine r_iast C hw (is0_s1 i0) (is0_l1 i0) (Nat.le_of_ble_eq_true rfl) dX0_put_23 hf (fun S23 H locs hf hw => ?_)
    refine lv_iload_n C.1.1 C.1.2.1 dX0_put_24 rfl (lv_at hl 0 rfl) ?_
    exact r_retI C hw dX0_put_25 hf
  · refine r_iconst (v := (-1)) C dX0_put_8 ?_
    exact r_retI C hw dX0_put_9 hf
def f_X0_hush (N : Nat) (S : S2) (c0 : Nat) (a1 : Int) : Option (Int × S2) := gI S c0 2 fun v1 => uI S c0 2 a1 fun S7 => rI v1 S7
abbrev rmX0_hush : Room := { frames := 0, cells := 0, slots := 0, locals := 0 }
theorem hd_X0_hush : yX0_hush.cls ≠ "java/lang/invoke/MethodHandle" ∧ yX0_hush.cls ≠ "java/lang/invoke/VarHandle" ∧ (parseMethodDescriptor yX0_hush.desc).map (fun d => d.parameters.length) = some 1 := by decide +kernel
set_option maxRecDepth 100000 in
set_option maxHeartbeats 4000000 in
theorem c_X0_hush (l : Launch) (X : XT) (hinj : XInj X nC) (hZ : ZOK (Zc X)) (N : Nat) (S : S2) (c0 : Nat) (a1 : Int) (i0 : Is0 c0) (out : Int × S2) (hf : f_X0_hush N S c0 a1 = some out) : MI l X shC nC (Zc X) yX0_hush cX0_hush 3 (some .int) rmX0_hush [.ref (X.2.2 c0), .int (iz a1)] S out := by
  refine met_I (own := RX0) (by decide) rfl hinj hZ (Nat.le_of_ble_eq_true rfl) (fun p e s m args below meth c C ls H locs hw hl => ?_)
  unfold f_X0_hush at hf
  have hl : lv_has ls 3 [(0, .ref (X.2.2 c0)), (1, .int (iz a1))] := hl
  refine lv_aload_n C.1.1 C.1.2.1 dX0_hush_0 rfl (lv_at hl 0 rfl) ?_
  refine r_getI (k := 2) C hw (is0_s i0) (is0_l i0) cO0 rfl (by decide) tw1_93 rfl dX0_hush_1 hf (fun v1 hf => ?_)
  refine lv_istore_n (lv' := [(2, .int (iz v1)), (0, .ref (X.2.2 c0)), (1, .int (iz a1))]) C.1.1 C.1.2.1 dX0_hush_4 rfl hl (by decide) rfl (fun ls hl => ?_)
  refine lv_aload_n C.1.1 C.1.2.1 dX0_hush_5 rfl (lv_at hl 1 rfl) ?_
  refine lv_iload_n C.1.1 C.1.2.1 dX0_hush_6 rfl (lv_at hl 2 rfl) ?_
  refine r_putI (k := 2) C hw (is0_s i0) (is0_l i0) cO0 rfl (by decide) tw1_93 rfl rfl rfl dX0_hush_7 hf (fun S7 H locs hf hw => ?_)
  refine lv_iload_n C.1.1 C.1.2.1 dX0_hush_10 rfl (lv_at hl 0 rfl) ?_
  exact r_retI C hw dX0_hush_11 hf
def f_X0_keepOnly_49 (c0 : Nat) (N : Nat) (x2 : Int) (x3 : Int) (S : S2) : Option (Int × S2) := uI S c0 1 x2 fun S51 => rI x3 S51
def f_X0_keepOnly_10 (c0 : Nat) (k49 : Int → Int → S2 → Option (Int × S2)) : Nat → Int → Int → Int → Int → S2 → Option (Int × S2)
  | 0, _, _, _, _, _ => none
  | N + 1, x1, x2, x3, x4, S => cI x4 x2 (if x2 ≤ x4 then k49 x2 x3 S else bI (f_X0_has N S c0 (x1 + x4)) fun v21 S21 => cI v21 0 (if v21 = 0 then k49 x2 x3 S21 else aI S21 (c0 + 1) 48 (x1 + x4) fun v41 => sI S21 (c0 + 1) 48 x4 v41 fun S42 => (f_X0_keepOnly_10 c0 k49 N) x1 x2 x3 (x4 + 1) S42))
def f_X0_keepOnly (N : Nat) (S : S2) (c0 : Nat) (a1 : Int) (a2 : Int) : Option (Int × S2) := gI S c0 1 fun v1 => (f_X0_keepOnly_10 c0 (f_X0_keepOnly_49 c0 N) N) a1 a2 (v1 - a2) 0 S
abbrev rmX0_keepOnly : Room := { frames := 1, cells := 0, slots := 0, locals := 21 }
theorem hd_X0_keepOnly : yX0_keepOnly.cls ≠ "java/lang/invoke/MethodHandle" ∧ yX0_keepOnly.cls ≠ "java/lang/invoke/VarHandle" ∧ (parseMethodDescriptor yX0_keepOnly.desc).map (fun d => d.parameters.length) = some 2 := by decide +kernel
set_option maxRecDepth 100000 in
set_option maxHeartbeats 4000000 in
theorem w_X0_keepOnly_49 {p : Program} (l : Launch) {e : Env} {s : State} {m : MethodId} {args : Array Value} {below : List Frame} {meth : Method} {c : Code} {X : XT} (hinj : XInj X nC) (hZ : ZOK (Zc X)) (C : CX p s m args meth c cX0_keepOnly 5 RX0 (some .int) X nC (Zc X)) (out : Int × S2) (c0 : Nat) (i0 : Is0 c0) : ∀ (N : Nat), ∀ (x2 : Int) (x3 : Int) (S : S2) (H : Heap) (locs : List Loc) (ls : Array Slot), f_X0_keepOnly_49 c0 N x2 x3 S = some out → WH X shC nC s S H locs → lv_has ls 5 [(0, .ref (X.2.2 c0)), (2, .int (iz x2)), (3, .int (iz x3))] → W p l e rmX0_keepOnly s m args below meth c H locs 0 0 (QI X shC nC s args below out) (F0 m 49 ls []) := by
  intro N x2 x3 S H locs ls hf hw hl
  unfold f_X0_keepOnly_49 at hf
  refine lv_aload_n C.1.1 C.1.2.1 dX0_keepOnly_49 rfl (lv_at hl 0 rfl) ?_
  refine lv_iload_n C.1.1 C.1.2.1 dX0_keepOnly_50 rfl (lv_at hl 1 rfl) ?_
  refine r_putI (k := 1) C hw (is0_s i0) (is0_l i0) cO0 rfl (by decide) tw1_89 rfl rfl rfl dX0_keepOnly_51 hf (fun S51 H locs hf hw => ?_)
  refine lv_iload_n C.1.1 C.1.2.1 dX0_keepOnly_54 rfl (lv_at hl 2 rfl) ?_
  exact r_retI C hw dX0_keepOnly_55 hf
set_option maxRecDepth 100000 in
set_option maxHeartbeats 4000000 in
theorem w_X0_keepOnly_10 {p : Program} (l : Launch) {e : Env} {s : State} {m : MethodId} {args : Array Value} {below : List Frame} {meth : Method} {c : Code} {X : XT} (hinj : XInj X nC) (hZ : ZOK (Zc X)) (C : CX p s m args meth c cX0_keepOnly 5 RX0 (some .int) X nC (Zc X)) (out : Int × S2) (c0 : Nat) (i0 : Is0 c0) (k49 : Int → Int → S2 → Option (Int × S2)) (hk49 : ∀ (x2 : Int) (x3 : Int) (S : S2) (H : Heap) (locs : List Loc) (ls : Array Slot), k49 x2 x3 S = some out → WH X shC nC s S H locs → lv_has ls 5 [(0, .ref (X.2.2 c0)), (2, .int (iz x2)), (3, .int (iz x3))] → W p l e rmX0_keepOnly s m args below meth c H locs 0 0 (QI X shC nC s args below out) (F0 m 49 ls [])) : ∀ (N : Nat), ∀ (x1 : Int) (x2 : Int) (x3 : Int) (x4 : Int) (S : S2) (H : Heap) (locs : List Loc) (ls : Array Slot), f_X0_keepOnly_10 c0 k49 N x1 x2 x3 x4 S = some out → WH X shC nC s S H locs → lv_has ls 5 [(0, .ref (X.2.2 c0)), (1, .int (iz x1)), (2, .int (iz x2)), (3, .int (iz x3)), (4, .int (iz x4))] → W p l e rmX0_keepOnly s m args below meth c H locs 0 0 (QI X shC nC s args below out) (F0 m 10 ls []) := by
  intro N
  induction N with
  | zero => intro x1 x2 x3 x4 S H locs ls hf hw hl; cases hf
  | succ N ih =>
    intro x1 x2 x3 x4 S H locs ls hf hw hl
    rw [f_X0_keepOnly_10.eq_2] at hf
    refine lv_iload C.1.1 C.1.2.1 dX0_keepOnly_10 (lv_at hl 4 rfl) ?_
    refine lv_iload_n C.1.1 C.1.2.1 dX0_keepOnly_12 rfl (lv_at hl 2 rfl) ?_
    refine r_icmp_ge C (tgt := 49) dX0_keepOnly_13 (by decide) hf (fun hf => ?_) (fun hf => ?_)
    · exact hk49 x2 x3 S H locs ls hf hw (lv_sub hl [0, 2, 3] rfl)
    · refine lv_aload_n C.1.1 C.1.2.1 dX0_keepOnly_16 rfl (lv_at hl 0 rfl) ?_
      refine lv_iload_n C.1.1 C.1.2.1 dX0_keepOnly_17 rfl (lv_at hl 1 rfl) ?_
      refine lv_iload C.1.1 C.1.2.1 dX0_keepOnly_18 (lv_at hl 4 rfl) ?_
      refine r_iadd C dX0_keepOnly_20 ?_
      refine r_callI (As := [.int (iz (x1 + x4))]) (rest := []) (rm := rmX0_has) C hw (is0_s i0) (is0_l i0) cO0 tw3_174 tw3_151 tw3_152 tw1_4 tw3_153 hd_X0_has rfl ⟨⟨rfl, rfl⟩, Nat.le_of_ble_eq_true rfl, Nat.le_of_ble_eq_true rfl⟩ hl.1 rfl (Nat.le_of_ble_eq_true rfl) dX0_keepOnly_21 hf (fun o ho => c_X0_has l X hinj hZ N S c0 (x1 + x4) i0 o ho) (fun v21 S21 H locs hf hw => ?_)
      refine r_if_eq C (tgt := 49) dX0_keepOnly_24 (by decide) hf (fun hf => ?_) (fun hf => ?_)
      · exact hk49 x2 x3 S21 H locs ls hf hw (lv_sub hl [0, 2, 3] rfl)
      · refine lv_aload_n C.1.1 C.1.2.1 dX0_keepOnly_27 rfl (lv_at hl 0 rfl) ?_
        refine r_getR (k := 0) C hw (is0_s i0) (is0_l i0) cO0 rfl (by decide) tw1_85 rfl dX0_keepOnly_28 ?_
        refine lv_iload C.1.1 C.1.2.1 dX0_keepOnly_31 (lv_at hl 4 rfl) ?_
        refine lv_aload_n C.1.1 C.1.2.1 dX0_keepOnly_33 rfl (lv_at hl 0 rfl) ?_
        refine r_getR (k := 0) C hw (is0_s i0) (is0_l i0) cO0 rfl (by decide) tw1_85 rfl dX0_keepOnly_34 ?_
        refine lv_iload_n C.1.1 C.1.2.1 dX0_keepOnly_37 rfl (lv_at hl 1 rfl) ?_
        refine lv_iload C.1.1 C.1.2.1 dX0_keepOnly_38 (lv_at hl 4 rfl) ?_
        refine r_iadd C dX0_keepOnly_40 ?_
        refine r_iald C hw (is0_s1 i0) (is0_l1 i0) (Nat.le_of_ble_eq_true rfl) dX0_keepOnly_41 hf (fun v41 hf => ?_)
        refine r_iast C hw (is0_s1 i0) (is0_l1 i0) (Nat.le_of_ble_eq_true rfl) dX0_keepOnly_42 hf (fun S42 H locs hf hw => ?_)
        refine lv_iinc (v := iz (x4 + 1)) (lv' := [(4, .int (iz (x4 + 1))), (0, .ref (X.2.2 c0)), (1, .int (iz x1)), (2, .int (iz x2)), (3, .int (iz x3))]) C.1.1 C.1.2.1 dX0_keepOnly_43 hl (k := 4) rfl (iz_add _ _) (by decide) rfl (fun ls hl => ?_)
        refine lv_goto (tgt := 10) C.1.1 C.1.2.1 dX0_keepOnly_46 (by decide) ?_
        exact ih x1 x2 x3 (x4 + 1) S42 H locs ls hf hw (lv_sub hl [1, 2, 3, 4, 0] rfl)
set_option maxRecDepth 100000 in
set_option maxHeartbeats 4000000 in
theorem c_X0_keepOnly (l : Launch) (X : XT) (hinj : XInj X nC) (hZ : ZOK (Zc X)) (N : Nat) (S : S2) (c0 : Nat) (a1 : Int) (a2 : Int) (i0 : Is0 c0) (out : Int × S2) (hf : f_X0_keepOnly N S c0 a1 a2 = some out) : MI l X shC nC (Zc X) yX0_keepOnly cX0_keepOnly 5 (some .int) rmX0_keepOnly [.ref (X.2.2 c0), .int (iz a1), .int (iz a2)] S out := by
  refine met_I (own := RX0) (by decide) rfl hinj hZ (Nat.le_of_ble_eq_true rfl) (fun p e s m args below meth c C ls H locs hw hl => ?_)
  unfold f_X0_keepOnly at hf
  have hl : lv_has ls 5 [(0, .ref (X.2.2 c0)), (1, .int (iz a1)), (2, .int (iz a2))] := hl
  refine lv_aload_n C.1.1 C.1.2.1 dX0_keepOnly_0 rfl (lv_at hl 0 rfl) ?_
  refine r_getI (k := 1) C hw (is0_s i0) (is0_l i0) cO0 rfl (by decide) tw1_89 rfl dX0_keepOnly_1 hf (fun v1 hf => ?_)
  refine lv_iload_n C.1.1 C.1.2.1 dX0_keepOnly_4 rfl (lv_at hl 2 rfl) ?_
  refine r_isub C dX0_keepOnly_5 ?_
  refine lv_istore_n (lv' := [(3, .int (iz (v1 - a2))), (0, .ref (X.2.2 c0)), (1, .int (iz a1)), (2, .int (iz a2))]) C.1.1 C.1.2.1 dX0_keepOnly_6 rfl hl (by decide) rfl (fun ls hl => ?_)
  refine r_iconst (v := 0) C dX0_keepOnly_7 ?_
  refine lv_istore (lv' := [(4, .int (iz 0)), (3, .int (iz (v1 - a2))), (0, .ref (X.2.2 c0)), (1, .int (iz a1)), (2, .int (iz a2))]) C.1.1 C.1.2.1 dX0_keepOnly_8 hl (by decide) rfl (fun ls hl => ?_)
  exact (w_X0_keepOnly_10 l hinj hZ C out c0 i0 (f_X0_keepOnly_49 c0 N) (w_X0_keepOnly_49 l hinj hZ C out c0 i0 N) N) a1 a2 (v1 - a2) 0 S H locs ls hf hw (lv_sub hl [2, 3, 4, 1, 0] rfl)
def f_X1_next (N : Nat) (S : S2) (c0 : Nat) (a1 : Int) : Option (Int × S2) := gL S c0 0 fun v2 => uL S c0 0 ((v2 * (6364136223846793005 : Int64)) + (1442695040888963407 : Int64)) fun S13 => cI a1 0 (if a1 ≤ 0 then rI 0 S13 else gL S13 c0 0 fun v21 => nzL ((iz a1).toInt64) <| rI (bz (((((v21).toUInt64 >>> ((iz 33).toInt64.toUInt64 &&& Int64.toUInt64 63)).toInt64) - (((v21).toUInt64 >>> ((iz 33).toInt64.toUInt64 &&& Int64.toUInt64 63)).toInt64) / ((iz a1).toInt64) * ((iz a1).toInt64)) : Int64).toInt32) S13)
abbrev rmX1_next : Room := { frames := 0, cells := 0, slots := 0, locals := 0 }
theorem hd_X1_next : yX1_next.cls ≠ "java/lang/invoke/MethodHandle" ∧ yX1_next.cls ≠ "java/lang/invoke/VarHandle" ∧ (parseMethodDescriptor yX1_next.desc).map (fun d => d.parameters.length) = some 1 := by decide +kernel
set_option maxRecDepth 100000 in
set_option maxHeartbeats 4000000 in
theorem c_X1_next (l : Launch) (X : XT) (hinj : XInj X nC) (hZ : ZOK (Zc X)) (N : Nat) (S : S2) (c0 : Nat) (a1 : Int) (i0 : Is1 c0) (out : Int × S2) (hf : f_X1_next N S c0 a1 = some out) : MI l X shC nC (Zc X) yX1_next cX1_next 2 (some .int) rmX1_next [.ref (X.2.2 c0), .int (iz a1)] S out := by
  refine met_I (own := RX1) (by decide) rfl hinj hZ (Nat.le_of_ble_eq_true rfl) (fun p e s m args below meth c C ls H locs hw hl => ?_)
  unfold f_X1_next at hf
  have hl : lv_has ls 2 [(0, .ref (X.2.2 c0)), (1, .int (iz a1))] := hl
  refine lv_aload_n C.1.1 C.1.2.1 dX1_next_0 rfl (lv_at hl 0 rfl) ?_
  refine lv_aload_n C.1.1 C.1.2.1 dX1_next_1 rfl (lv_at hl 0 rfl) ?_
  refine r_getL (k := 0) C hw (is1_s i0) (is1_l i0) cO1 rfl (by decide) tw2_26 rfl dX1_next_2 hf (fun v2 hf => ?_)
  refine lv_ldc2 (v := 6364136223846793005) C.1.1 C.1.2.1 C.1.2.2.2.1 (C.1.2.2.2.2 _ tw4_119) dX1_next_5 ?_
  refine lv_lmul C.1.1 C.1.2.1 dX1_next_8 ?_
  refine lv_ldc2 (v := 1442695040888963407) C.1.1 C.1.2.1 C.1.2.2.2.1 (C.1.2.2.2.2 _ tw4_120) dX1_next_9 ?_
  refine lv_ladd C.1.1 C.1.2.1 dX1_next_12 ?_
  refine r_putL (k := 0) C hw (is1_s i0) (is1_l i0) cO1 rfl (by decide) tw2_26 rfl rfl rfl dX1_next_13 hf (fun S13 H locs hf hw => ?_)
  refine lv_iload_n C.1.1 C.1.2.1 dX1_next_16 rfl (lv_at hl 1 rfl) ?_
  refine r_if_le C (tgt := 34) dX1_next_17 (by decide) hf (fun hf => ?_) (fun hf => ?_)
  · refine r_iconst (v := 0) C dX1_next_34 ?_
    exact r_retI C hw dX1_next_35 hf
  · refine lv_aload_n C.1.1 C.1.2.1 dX1_next_20 rfl (lv_at hl 0 rfl) ?_
    refine r_getL (k := 0) C hw (is1_s i0) (is1_l i0) cO1 rfl (by decide) tw2_26 rfl dX1_next_21 hf (fun v21 hf => ?_)
    refine r_bipush (v := 33) C dX1_next_24 (by decide) ?_
    refine lv_lushr (v := (((v21).toUInt64 >>> ((iz 33).toInt64.toUInt64 &&& Int64.toUInt64 63)).toInt64)) C.1.1 C.1.2.1 dX1_next_26 rfl ?_
    refine lv_iload_n C.1.1 C.1.2.1 dX1_next_27 rfl (lv_at hl 1 rfl) ?_
    refine lv_i2l (v := ((iz a1).toInt64)) C.1.1 C.1.2.1 dX1_next_28 rfl ?_
    obtain ⟨hne, hf⟩ := nzL_some hf
    refine lv_lrem C.1.1 C.1.2.1 dX1_next_29 hne ?_
    refine r_l2i C dX1_next_30 ?_
    refine lv_goto (tgt := 35) C.1.1 C.1.2.1 dX1_next_31 (by decide) ?_
    exact r_retI C hw dX1_next_35 hf
def f_X2_forget (N : Nat) (S : S2) (c0 : Nat) : Option (S2) := uI S c0 0 0 fun S2 => rV S2
abbrev rmX2_forget : Room := { frames := 0, cells := 0, slots := 0, locals := 0 }
theorem hd_X2_forget : yX2_forget.cls ≠ "java/lang/invoke/MethodHandle" ∧ yX2_forget.cls ≠ "java/lang/invoke/VarHandle" ∧ (parseMethodDescriptor yX2_forget.desc).map (fun d => d.parameters.length) = some 0 := by decide +kernel
set_option maxRecDepth 100000 in
set_option maxHeartbeats 4000000 in
theorem c_X2_forget (l : Launch) (X : XT) (hinj : XInj X nC) (hZ : ZOK (Zc X)) (N : Nat) (S : S2) (c0 : Nat) (i0 : Is2 c0) (out : S2) (hf : f_X2_forget N S c0 = some out) : MV l X shC nC (Zc X) yX2_forget cX2_forget 1 none rmX2_forget [.ref (X.2.2 c0)] S out := by
  refine met_V (own := RX2) (by decide) rfl hinj hZ (Nat.le_of_ble_eq_true rfl) (fun p e s m args below meth c C ls H locs hw hl => ?_)
  unfold f_X2_forget at hf
  have hl : lv_has ls 1 [(0, .ref (X.2.2 c0))] := hl
  refine lv_aload_n C.1.1 C.1.2.1 dX2_forget_0 rfl (lv_at hl 0 rfl) ?_
  refine r_iconst (v := 0) C dX2_forget_1 ?_
  refine r_putI (k := 0) C hw (is2_s i0) (is2_l i0) cO2 rfl (by decide) tw1_202 rfl rfl rfl dX2_forget_2 hf (fun S2 H locs hf hw => ?_)
  exact r_retV C hw dX2_forget_5 hf
def f_X2_keep (N : Nat) (S : S2) (c0 : Nat) (c1 : Nat) : Option (S2) := gI S c0 1 fun v5 => aR 40 v5 fun j8 => bV (f_X0_copyFrom N S ((fun j => 82 + 2 * j) j8) c1) fun S10 => gI S10 c0 1 fun v15 => rmI (v15 + 1) 40 fun v22 => uI S10 c0 1 v22 fun S23 => gI S23 c0 0 fun v28 => mnI (v28 + 1) 40 fun v35 => uI S23 c0 0 v35 fun S38 => rV S38
abbrev rmX2_keep : Room := { frames := 2, cells := 0, slots := 0, locals := 47 }
theorem hd_X2_keep : yX2_keep.cls ≠ "java/lang/invoke/MethodHandle" ∧ yX2_keep.cls ≠ "java/lang/invoke/VarHandle" ∧ (parseMethodDescriptor yX2_keep.desc).map (fun d => d.parameters.length) = some 1 := by decide +kernel
set_option maxRecDepth 100000 in
set_option maxHeartbeats 4000000 in
theorem c_X2_keep (l : Launch) (X : XT) (hinj : XInj X nC) (hZ : ZOK (Zc X)) (N : Nat) (S : S2) (c0 : Nat) (c1 : Nat) (i0 : Is2 c0) (i1 : Is0 c1) (out : S2) (hf : f_X2_keep N S c0 c1 = some out) : MV l X shC nC (Zc X) yX2_keep cX2_keep 2 none rmX2_keep [.ref (X.2.2 c0), .ref (X.2.2 c1)] S out := by
  refine met_V (own := RX2) (by decide) rfl hinj hZ (Nat.le_of_ble_eq_true rfl) (fun p e s m args below meth c C ls H locs hw hl => ?_)
  unfold f_X2_keep at hf
  have hl : lv_has ls 2 [(0, .ref (X.2.2 c0)), (1, .ref (X.2.2 c1))] := hl
  refine lv_aload_n C.1.1 C.1.2.1 dX2_keep_0 rfl (lv_at hl 0 rfl) ?_
  refine r_getR (k := 2) C hw (is2_s i0) (is2_l i0) cO2 rfl (by decide) tw1_205 rfl dX2_keep_1 ?_
  refine lv_aload_n C.1.1 C.1.2.1 dX2_keep_4 rfl (lv_at hl 0 rfl) ?_
  refine r_getI (k := 1) C hw (is2_s i0) (is2_l i0) cO2 rfl (by decide) tw1_204 rfl dX2_keep_5 hf (fun v5 hf => ?_)
  refine r_aald C hw (is2_s1 i0) rfl (is2_l1 i0) (Nat.le_of_ble_eq_true rfl) dX2_keep_8 hf (fun j8 hj8 hf => ?_)
  refine lv_aload_n C.1.1 C.1.2.1 dX2_keep_9 rfl (lv_at hl 1 rfl) ?_
  refine r_callV (As := [.ref (X.2.2 c1)]) (rest := []) (rm := rmX0_copyFrom) C hw (is0_s (is0_el hj8)) (is0_l (is0_el hj8)) cO0 tw4_10 tw3_51 tw3_52 tw1_4 tw3_53 hd_X0_copyFrom rfl ⟨⟨rfl, rfl⟩, Nat.le_of_ble_eq_true rfl, Nat.le_of_ble_eq_true rfl⟩ hl.1 rfl (Nat.le_of_ble_eq_true rfl) dX2_keep_10 hf (fun o ho => c_X0_copyFrom l X hinj hZ N S ((fun j => 82 + 2 * j) j8) c1 (is0_el hj8) i1 o ho) (fun S10 H locs hf hw => ?_)
  refine lv_aload_n C.1.1 C.1.2.1 dX2_keep_13 rfl (lv_at hl 0 rfl) ?_
  refine lv_aload_n C.1.1 C.1.2.1 dX2_keep_14 rfl (lv_at hl 0 rfl) ?_
  refine r_getI (k := 1) C hw (is2_s i0) (is2_l i0) cO2 rfl (by decide) tw1_204 rfl dX2_keep_15 hf (fun v15 hf => ?_)
  refine r_iconst (v := 1) C dX2_keep_18 ?_
  refine r_iadd C dX2_keep_19 ?_
  refine r_bipush (v := 40) C dX2_keep_20 (by decide) ?_
  refine r_irem C dX2_keep_22 hf (fun v22 hf => ?_)
  refine r_putI (k := 1) C hw (is2_s i0) (is2_l i0) cO2 rfl (by decide) tw1_204 rfl rfl rfl dX2_keep_23 hf (fun S23 H locs hf hw => ?_)
  refine lv_aload_n C.1.1 C.1.2.1 dX2_keep_26 rfl (lv_at hl 0 rfl) ?_
  refine lv_aload_n C.1.1 C.1.2.1 dX2_keep_27 rfl (lv_at hl 0 rfl) ?_
  refine r_getI (k := 0) C hw (is2_s i0) (is2_l i0) cO2 rfl (by decide) tw1_202 rfl dX2_keep_28 hf (fun v28 hf => ?_)
  refine r_iconst (v := 1) C dX2_keep_31 ?_
  refine r_iadd C dX2_keep_32 ?_
  refine r_bipush (v := 40) C dX2_keep_33 (by decide) ?_
  refine r_min C tw4_11 tw3_83 tw1_18 tw3_84 hl.1 (Nat.le_of_ble_eq_true rfl) (Nat.le_of_ble_eq_true rfl) dX2_keep_35 hf (fun v35 hf => ?_)
  refine r_putI (k := 0) C hw (is2_s i0) (is2_l i0) cO2 rfl (by decide) tw1_202 rfl rfl rfl dX2_keep_38 hf (fun S38 H locs hf hw => ?_)
  exact r_retV C hw dX2_keep_41 hf
def f_X2_takeBack (N : Nat) (S : S2) (c0 : Nat) (c1 : Nat) : Option (S2) := gI S c0 1 fun v2 => rmI ((v2 + 40) - 1) 40 fun v12 => uI S c0 1 v12 fun S13 => gI S13 c0 0 fun v18 => uI S13 c0 0 (v18 - 1) fun S23 => gI S23 c0 1 fun v32 => aR 40 v32 fun j35 => bV (f_X0_copyFrom N S23 c1 ((fun j => 82 + 2 * j) j35)) fun S36 => rV S36
abbrev rmX2_takeBack : Room := { frames := 2, cells := 0, slots := 0, locals := 47 }
theorem hd_X2_takeBack : yX2_takeBack.cls ≠ "java/lang/invoke/MethodHandle" ∧ yX2_takeBack.cls ≠ "java/lang/invoke/VarHandle" ∧ (parseMethodDescriptor yX2_takeBack.desc).map (fun d => d.parameters.length) = some 1 := by decide +kernel
set_option maxRecDepth 100000 in
set_option maxHeartbeats 4000000 in
theorem c_X2_takeBack (l : Launch) (X : XT) (hinj : XInj X nC) (hZ : ZOK (Zc X)) (N : Nat) (S : S2) (c0 : Nat) (c1 : Nat) (i0 : Is2 c0) (i1 : Is0 c1) (out : S2) (hf : f_X2_takeBack N S c0 c1 = some out) : MV l X shC nC (Zc X) yX2_takeBack cX2_takeBack 2 none rmX2_takeBack [.ref (X.2.2 c0), .ref (X.2.2 c1)] S out := by
  refine met_V (own := RX2) (by decide) rfl hinj hZ (Nat.le_of_ble_eq_true rfl) (fun p e s m args below meth c C ls H locs hw hl => ?_)
  unfold f_X2_takeBack at hf
  have hl : lv_has ls 2 [(0, .ref (X.2.2 c0)), (1, .ref (X.2.2 c1))] := hl
  refine lv_aload_n C.1.1 C.1.2.1 dX2_takeBack_0 rfl (lv_at hl 0 rfl) ?_
  refine lv_aload_n C.1.1 C.1.2.1 dX2_takeBack_1 rfl (lv_at hl 0 rfl) ?_
  refine r_getI (k := 1) C hw (is2_s i0) (is2_l i0) cO2 rfl (by decide) tw1_204 rfl dX2_takeBack_2 hf (fun v2 hf => ?_)
  refine r_bipush (v := 40) C dX2_takeBack_5 (by decide) ?_
  refine r_iadd C dX2_takeBack_7 ?_
  refine r_iconst (v := 1) C dX2_takeBack_8 ?_
  refine r_isub C dX2_takeBack_9 ?_
  refine r_bipush (v := 40) C dX2_takeBack_10 (by decide) ?_
  refine r_irem C dX2_takeBack_12 hf (fun v12 hf => ?_)
  refine r_putI (k := 1) C hw (is2_s i0) (is2_l i0) cO2 rfl (by decide) tw1_204 rfl rfl rfl dX2_takeBack_13 hf (fun S13 H locs hf hw => ?_)
  refine lv_aload_n C.1.1 C.1.2.1 dX2_takeBack_16 rfl (lv_at hl 0 rfl) ?_
  refine lv_dup C.1.1 C.1.2.1 dX2_takeBack_17 rfl ?_
  refine r_getI (k := 0) C hw (is2_s i0) (is2_l i0) cO2 rfl (by decide) tw1_202 rfl dX2_takeBack_18 hf (fun v18 hf => ?_)
  refine r_iconst (v := 1) C dX2_takeBack_21 ?_
  refine r_isub C dX2_takeBack_22 ?_
  refine r_putI (k := 0) C hw (is2_s i0) (is2_l i0) cO2 rfl (by decide) tw1_202 rfl rfl rfl dX2_takeBack_23 hf (fun S23 H locs hf hw => ?_)
  refine lv_aload_n C.1.1 C.1.2.1 dX2_takeBack_26 rfl (lv_at hl 1 rfl) ?_
  refine lv_aload_n C.1.1 C.1.2.1 dX2_takeBack_27 rfl (lv_at hl 0 rfl) ?_
  refine r_getR (k := 2) C hw (is2_s i0) (is2_l i0) cO2 rfl (by decide) tw1_205 rfl dX2_takeBack_28 ?_
  refine lv_aload_n C.1.1 C.1.2.1 dX2_takeBack_31 rfl (lv_at hl 0 rfl) ?_
  refine r_getI (k := 1) C hw (is2_s i0) (is2_l i0) cO2 rfl (by decide) tw1_204 rfl dX2_takeBack_32 hf (fun v32 hf => ?_)
  refine r_aald C hw (is2_s1 i0) rfl (is2_l1 i0) (Nat.le_of_ble_eq_true rfl) dX2_takeBack_35 hf (fun j35 hj35 hf => ?_)
  refine r_callV (As := [.ref (X.2.2 ((fun j => 82 + 2 * j) j35))]) (rest := []) (rm := rmX0_copyFrom) C hw (is0_s i1) (is0_l i1) cO0 tw4_10 tw3_51 tw3_52 tw1_4 tw3_53 hd_X0_copyFrom rfl ⟨⟨rfl, rfl⟩, Nat.le_of_ble_eq_true rfl, Nat.le_of_ble_eq_true rfl⟩ hl.1 rfl (Nat.le_of_ble_eq_true rfl) dX2_takeBack_36 hf (fun o ho => c_X0_copyFrom l X hinj hZ N S23 c1 ((fun j => 82 + 2 * j) j35) i1 (is0_el hj35) o ho) (fun S36 H locs hf hw => ?_)
  exact r_retV C hw dX2_takeBack_39 hf
def f_X3_copyFrom (N : Nat) (S : S2) (c0 : Nat) (c1 : Nat) : Option (S2) := gI S c1 0 fun v2 => uI S c0 0 v2 fun S5 => gI S5 c1 1 fun v10 => uI S5 c0 1 v10 fun S13 => cpI S13 (c1 + 1) (c0 + 1) 8 8 0 0 8 fun S28 => cpI S28 (c1 + 2) (c0 + 2) 8 8 0 0 8 fun S43 => cpC S43 (c1 + 4) (c0 + 4) 48 48 0 0 48 fun S58 => rV S58
abbrev rmX3_copyFrom : Room := { frames := 1, cells := 0, slots := 0, locals := 26 }
theorem hd_X3_copyFrom : yX3_copyFrom.cls ≠ "java/lang/invoke/MethodHandle" ∧ yX3_copyFrom.cls ≠ "java/lang/invoke/VarHandle" ∧ (parseMethodDescriptor yX3_copyFrom.desc).map (fun d => d.parameters.length) = some 1 := by decide +kernel
set_option maxRecDepth 100000 in
set_option maxHeartbeats 4000000 in
theorem c_X3_copyFrom (l : Launch) (X : XT) (hinj : XInj X nC) (hZ : ZOK (Zc X)) (N : Nat) (S : S2) (c0 : Nat) (c1 : Nat) (i0 : Is3 c0) (i1 : Is3 c1) (out : S2) (hf : f_X3_copyFrom N S c0 c1 = some out) : MV l X shC nC (Zc X) yX3_copyFrom cX3_copyFrom 2 none rmX3_copyFrom [.ref (X.2.2 c0), .ref (X.2.2 c1)] S out := by
  refine met_V (own := RX3) (by decide) rfl hinj hZ (Nat.le_of_ble_eq_true rfl) (fun p e s m args below meth c C ls H locs hw hl => ?_)
  unfold f_X3_copyFrom at hf
  have hl : lv_has ls 2 [(0, .ref (X.2.2 c0)), (1, .ref (X.2.2 c1))] := hl
  refine lv_aload_n C.1.1 C.1.2.1 dX3_copyFrom_0 rfl (lv_at hl 0 rfl) ?_
  refine lv_aload_n C.1.1 C.1.2.1 dX3_copyFrom_1 rfl (lv_at hl 1 rfl) ?_
  refine r_getI (k := 0) C hw (is3_s i1) (is3_l i1) cO3 rfl (by decide) tw1_166 rfl dX3_copyFrom_2 hf (fun v2 hf => ?_)
  refine r_putI (k := 0) C hw (is3_s i0) (is3_l i0) cO3 rfl (by decide) tw1_166 rfl rfl rfl dX3_copyFrom_5 hf (fun S5 H locs hf hw => ?_)
  refine lv_aload_n C.1.1 C.1.2.1 dX3_copyFrom_8 rfl (lv_at hl 0 rfl) ?_
  refine lv_aload_n C.1.1 C.1.2.1 dX3_copyFrom_9 rfl (lv_at hl 1 rfl) ?_
  refine r_getI (k := 1) C hw (is3_s i1) (is3_l i1) cO3 rfl (by decide) tw1_169 rfl dX3_copyFrom_10 hf (fun v10 hf => ?_)
  refine r_putI (k := 1) C hw (is3_s i0) (is3_l i0) cO3 rfl (by decide) tw1_169 rfl rfl rfl dX3_copyFrom_13 hf (fun S13 H locs hf hw => ?_)
  refine lv_aload_n C.1.1 C.1.2.1 dX3_copyFrom_16 rfl (lv_at hl 1 rfl) ?_
  refine r_getR (k := 2) C hw (is3_s i1) (is3_l i1) cO3 rfl (by decide) tw1_172 rfl dX3_copyFrom_17 ?_
  refine r_iconst (v := 0) C dX3_copyFrom_20 ?_
  refine lv_aload_n C.1.1 C.1.2.1 dX3_copyFrom_21 rfl (lv_at hl 0 rfl) ?_
  refine r_getR (k := 2) C hw (is3_s i0) (is3_l i0) cO3 rfl (by decide) tw1_172 rfl dX3_copyFrom_22 ?_
  refine r_iconst (v := 0) C dX3_copyFrom_25 ?_
  refine r_bipush (v := 8) C dX3_copyFrom_26 (by decide) ?_
  refine r_cpI C hw (is3_s1 i1) (is3_s1 i0) (is3_l1 i1) (is3_l1 i0) tw3_61 tw3_56 tw3_55 tw1_17 hl.1 (Nat.le_of_ble_eq_true rfl) (Nat.le_of_ble_eq_true rfl) (Nat.le_of_ble_eq_true rfl) (Nat.le_of_ble_eq_true rfl) dX3_copyFrom_28 hf (fun S28 H locs hf hw => ?_)
  refine lv_aload_n C.1.1 C.1.2.1 dX3_copyFrom_31 rfl (lv_at hl 1 rfl) ?_
  refine r_getR (k := 3) C hw (is3_s i1) (is3_l i1) cO3 rfl (by decide) tw1_174 rfl dX3_copyFrom_32 ?_
  refine r_iconst (v := 0) C dX3_copyFrom_35 ?_
  refine lv_aload_n C.1.1 C.1.2.1 dX3_copyFrom_36 rfl (lv_at hl 0 rfl) ?_
  refine r_getR (k := 3) C hw (is3_s i0) (is3_l i0) cO3 rfl (by decide) tw1_174 rfl dX3_copyFrom_37 ?_
  refine r_iconst (v := 0) C dX3_copyFrom_40 ?_
  refine r_bipush (v := 8) C dX3_copyFrom_41 (by decide) ?_
  refine r_cpI C hw (is3_s2 i1) (is3_s2 i0) (is3_l2 i1) (is3_l2 i0) tw3_61 tw3_56 tw3_55 tw1_17 hl.1 (Nat.le_of_ble_eq_true rfl) (Nat.le_of_ble_eq_true rfl) (Nat.le_of_ble_eq_true rfl) (Nat.le_of_ble_eq_true rfl) dX3_copyFrom_43 hf (fun S43 H locs hf hw => ?_)
  refine lv_aload_n C.1.1 C.1.2.1 dX3_copyFrom_46 rfl (lv_at hl 1 rfl) ?_
  refine r_getR (k := 5) C hw (is3_s i1) (is3_l i1) cO3 rfl (by decide) tw1_179 rfl dX3_copyFrom_47 ?_
  refine r_iconst (v := 0) C dX3_copyFrom_50 ?_
  refine lv_aload_n C.1.1 C.1.2.1 dX3_copyFrom_51 rfl (lv_at hl 0 rfl) ?_
  refine r_getR (k := 5) C hw (is3_s i0) (is3_l i0) cO3 rfl (by decide) tw1_179 rfl dX3_copyFrom_52 ?_
  refine r_iconst (v := 0) C dX3_copyFrom_55 ?_
  refine r_bipush (v := 48) C dX3_copyFrom_56 (by decide) ?_
  refine r_cpC C hw (is3_s4 i1) (is3_s4 i0) (is3_l4 i1) (is3_l4 i0) tw3_61 tw3_56 tw3_55 tw1_17 hl.1 (Nat.le_of_ble_eq_true rfl) (Nat.le_of_ble_eq_true rfl) (Nat.le_of_ble_eq_true rfl) (Nat.le_of_ble_eq_true rfl) dX3_copyFrom_58 hf (fun S58 H locs hf hw => ?_)
  exact r_retV C hw dX3_copyFrom_61 hf
def f_X3_letter (N : Nat) (S : S2) (c0 : Nat) (a1 : Int) (a2 : Int) : Option (Int × S2) := aI S (c0 + 4) 48 ((a1 * 6) + a2) fun v10 => rC v10 S
abbrev rmX3_letter : Room := { frames := 0, cells := 0, slots := 0, locals := 0 }
theorem hd_X3_letter : yX3_letter.cls ≠ "java/lang/invoke/MethodHandle" ∧ yX3_letter.cls ≠ "java/lang/invoke/VarHandle" ∧ (parseMethodDescriptor yX3_letter.desc).map (fun d => d.parameters.length) = some 2 := by decide +kernel
set_option maxRecDepth 100000 in
set_option maxHeartbeats 4000000 in
theorem c_X3_letter (l : Launch) (X : XT) (hinj : XInj X nC) (hZ : ZOK (Zc X)) (N : Nat) (S : S2) (c0 : Nat) (a1 : Int) (a2 : Int) (i0 : Is3 c0) (out : Int × S2) (hf : f_X3_letter N S c0 a1 a2 = some out) : MI l X shC nC (Zc X) yX3_letter cX3_letter 3 (some .char) rmX3_letter [.ref (X.2.2 c0), .int (iz a1), .int (iz a2)] S out := by
  refine met_I (own := RX3) (by decide) rfl hinj hZ (Nat.le_of_ble_eq_true rfl) (fun p e s m args below meth c C ls H locs hw hl => ?_)
  unfold f_X3_letter at hf
  have hl : lv_has ls 3 [(0, .ref (X.2.2 c0)), (1, .int (iz a1)), (2, .int (iz a2))] := hl
  refine lv_aload_n C.1.1 C.1.2.1 dX3_letter_0 rfl (lv_at hl 0 rfl) ?_
  refine r_getR (k := 5) C hw (is3_s i0) (is3_l i0) cO3 rfl (by decide) tw1_179 rfl dX3_letter_1 ?_
  refine lv_iload_n C.1.1 C.1.2.1 dX3_letter_4 rfl (lv_at hl 1 rfl) ?_
  refine r_bipush (v := 6) C dX3_letter_5 (by decide) ?_
  refine r_imul C dX3_letter_7 ?_
  refine lv_iload_n C.1.1 C.1.2.1 dX3_letter_8 rfl (lv_at hl 2 rfl) ?_
  refine r_iadd C dX3_letter_9 ?_
  refine r_cald C hw (is3_s4 i0) (is3_l4 i0) (Nat.le_of_ble_eq_true rfl) dX3_letter_10 hf (fun v10 hf => ?_)
  exact r_retC C hw dX3_letter_11 hf
def f_X3_nearestFree_54 (c0 : Nat) (k4 : Int → Int → Int → S2 → Option (Int × S2)) (N : Nat) (x1 : Int) (x2 : Int) (x3 : Int) (S : S2) : Option (Int × S2) := k4 x1 x2 (x3 + 1) S
def f_X3_nearestFree_52 (c0 : Nat) (k4 : Int → Int → Int → S2 → Option (Int × S2)) (N : Nat) (x1 : Int) (x3 : Int) (S : S2) : Option (Int × S2) := (f_X3_nearestFree_54 c0 k4 N) x1 x3 x3 S
def f_X3_nearestFree_4 (c0 : Nat) : Nat → Int → Int → Int → S2 → Option (Int × S2)
  | 0, _, _, _, _ => none
  | N + 1, x1, x2, x3, S => gI S c0 0 fun v6 => cI x3 v6 (if v6 ≤ x3 then rI x2 S else aI S (c0 + 3) 8 x3 fun v17 => cI v17 (-1) (if v17 = (-1) then cI x2 (-1) (if x2 = (-1) then (f_X3_nearestFree_52 c0 (f_X3_nearestFree_4 c0 N) N) x1 x3 S else aI S (c0 + 1) 8 x3 fun v32 => abI (v32 - x1) fun v35 => aI S (c0 + 1) 8 x2 fun v43 => abI (v43 - x1) fun v46 => cI v35 v46 (if v46 ≤ v35 then (f_X3_nearestFree_54 c0 (f_X3_nearestFree_4 c0 N) N) x1 x2 x3 S else (f_X3_nearestFree_52 c0 (f_X3_nearestFree_4 c0 N) N) x1 x3 S)) else (f_X3_nearestFree_54 c0 (f_X3_nearestFree_4 c0 N) N) x1 x2 x3 S))
def f_X3_nearestFree (N : Nat) (S : S2) (c0 : Nat) (a1 : Int) : Option (Int × S2) := (f_X3_nearestFree_4 c0 N) a1 (-1) 0 S
abbrev rmX3_nearestFree : Room := { frames := 1, cells := 0, slots := 0, locals := 21 }
theorem hd_X3_nearestFree : yX3_nearestFree.cls ≠ "java/lang/invoke/MethodHandle" ∧ yX3_nearestFree.cls ≠ "java/lang/invoke/VarHandle" ∧ (parseMethodDescriptor yX3_nearestFree.desc).map (fun d => d.parameters.length) = some 1 := by decide +kernel
set_option maxRecDepth 100000 in
set_option maxHeartbeats 4000000 in
theorem w_X3_nearestFree_54 {p : Program} (l : Launch) {e : Env} {s : State} {m : MethodId} {args : Array Value} {below : List Frame} {meth : Method} {c : Code} {X : XT} (hinj : XInj X nC) (hZ : ZOK (Zc X)) (C : CX p s m args meth c cX3_nearestFree 4 RX3 (some .int) X nC (Zc X)) (out : Int × S2) (c0 : Nat) (i0 : Is3 c0) (k4 : Int → Int → Int → S2 → Option (Int × S2)) (hk4 : ∀ (x1 : Int) (x2 : Int) (x3 : Int) (S : S2) (H : Heap) (locs : List Loc) (ls : Array Slot), k4 x1 x2 x3 S = some out → WH X shC nC s S H locs → lv_has ls 4 [(0, .ref (X.2.2 c0)), (1, .int (iz x1)), (2, .int (iz x2)), (3, .int (iz x3))] → W p l e rmX3_nearestFree s m args below meth c H locs 0 0 (QI X shC nC s args below out) (F0 m 4 ls [])) : ∀ (N : Nat), ∀ (x1 : Int) (x2 : Int) (x3 : Int) (S : S2) (H : Heap) (locs : List Loc) (ls : Array Slot), f_X3_nearestFree_54 c0 k4 N x1 x2 x3 S = some out → WH X shC nC s S H locs → lv_has ls 4 [(0, .ref (X.2.2 c0)), (1, .int (iz x1)), (2, .int (iz x2)), (3, .int (iz x3))] → W p l e rmX3_nearestFree s m args below meth c H locs 0 0 (QI X shC nC s args below out) (F0 m 54 ls []) := by
  intro N x1 x2 x3 S H locs ls hf hw hl
  unfold f_X3_nearestFree_54 at hf
  refine lv_iinc (v := iz (x3 + 1)) (lv' := [(3, .int (iz (x3 + 1))), (0, .ref (X.2.2 c0)), (1, .int (iz x1)), (2, .int (iz x2))]) C.1.1 C.1.2.1 dX3_nearestFree_54 hl (k := 3) rfl (iz_add _ _) (by decide) rfl (fun ls hl => ?_)
  refine lv_goto (tgt := 4) C.1.1 C.1.2.1 dX3_nearestFree_57 (by decide) ?_
  exact hk4 x1 x2 (x3 + 1) S H locs ls hf hw (lv_sub hl [1, 2, 3, 0] rfl)
set_option maxRecDepth 100000 in
set_option maxHeartbeats 4000000 in
theorem w_X3_nearestFree_52 {p : Program} (l : Launch) {e : Env} {s : State} {m : MethodId} {args : Array Value} {below : List Frame} {meth : Method} {c : Code} {X : XT} (hinj : XInj X nC) (hZ : ZOK (Zc X)) (C : CX p s m args meth c cX3_nearestFree 4 RX3 (some .int) X nC (Zc X)) (out : Int × S2) (c0 : Nat) (i0 : Is3 c0) (k4 : Int → Int → Int → S2 → Option (Int × S2)) (hk4 : ∀ (x1 : Int) (x2 : Int) (x3 : Int) (S : S2) (H : Heap) (locs : List Loc) (ls : Array Slot), k4 x1 x2 x3 S = some out → WH X shC nC s S H locs → lv_has ls 4 [(0, .ref (X.2.2 c0)), (1, .int (iz x1)), (2, .int (iz x2)), (3, .int (iz x3))] → W p l e rmX3_nearestFree s m args below meth c H locs 0 0 (QI X shC nC s args below out) (F0 m 4 ls [])) : ∀ (N : Nat), ∀ (x1 : Int) (x3 : Int) (S : S2) (H : Heap) (locs : List Loc) (ls : Array Slot), f_X3_nearestFree_52 c0 k4 N x1 x3 S = some out → WH X shC nC s S H locs → lv_has ls 4 [(0, .ref (X.2.2 c0)), (1, .int (iz x1)), (3, .int (iz x3))] → W p l e rmX3_nearestFree s m args below meth c H locs 0 0 (QI X shC nC s args below out) (F0 m 52 ls []) := by
  intro N x1 x3 S H locs ls hf hw hl
  unfold f_X3_nearestFree_52 at hf
  refine lv_iload_n C.1.1 C.1.2.1 dX3_nearestFree_52 rfl (lv_at hl 2 rfl) ?_
  refine lv_istore_n (lv' := [(2, .int (iz x3)), (0, .ref (X.2.2 c0)), (1, .int (iz x1)), (3, .int (iz x3))]) C.1.1 C.1.2.1 dX3_nearestFree_53 rfl hl (by decide) rfl (fun ls hl => ?_)
  exact (w_X3_nearestFree_54 l hinj hZ C out c0 i0 k4 hk4 N) x1 x3 x3 S H locs ls hf hw (lv_sub hl [1, 2, 0, 3] rfl)
set_option maxRecDepth 100000 in
set_option maxHeartbeats 4000000 in
theorem w_X3_nearestFree_4 {p : Program} (l : Launch) {e : Env} {s : State} {m : MethodId} {args : Array Value} {below : List Frame} {meth : Method} {c : Code} {X : XT} (hinj : XInj X nC) (hZ : ZOK (Zc X)) (C : CX p s m args meth c cX3_nearestFree 4 RX3 (some .int) X nC (Zc X)) (out : Int × S2) (c0 : Nat) (i0 : Is3 c0) : ∀ (N : Nat), ∀ (x1 : Int) (x2 : Int) (x3 : Int) (S : S2) (H : Heap) (locs : List Loc) (ls : Array Slot), f_X3_nearestFree_4 c0 N x1 x2 x3 S = some out → WH X shC nC s S H locs → lv_has ls 4 [(0, .ref (X.2.2 c0)), (1, .int (iz x1)), (2, .int (iz x2)), (3, .int (iz x3))] → W p l e rmX3_nearestFree s m args below meth c H locs 0 0 (QI X shC nC s args below out) (F0 m 4 ls []) := by
  intro N
  induction N with
  | zero => intro x1 x2 x3 S H locs ls hf hw hl; cases hf
  | succ N ih =>
    intro x1 x2 x3 S H locs ls hf hw hl
    rw [f_X3_nearestFree_4.eq_2] at hf
    refine lv_iload_n C.1.1 C.1.2.1 dX3_nearestFree_4 rfl (lv_at hl 3 rfl) ?_
    refine lv_aload_n C.1.1 C.1.2.1 dX3_nearestFree_5 rfl (lv_at hl 0 rfl) ?_
    refine r_getI (k := 0) C hw (is3_s i0) (is3_l i0) cO3 rfl (by decide) tw1_166 rfl dX3_nearestFree_6 hf (fun v6 hf => ?_)
    refine r_icmp_ge C (tgt := 60) dX3_nearestFree_9 (by decide) hf (fun hf => ?_) (fun hf => ?_)
    · refine lv_iload_n C.1.1 C.1.2.1 dX3_nearestFree_60 rfl (lv_at hl 2 rfl) ?_
      exact r_retI C hw dX3_nearestFree_61 hf
    · refine lv_aload_n C.1.1 C.1.2.1 dX3_nearestFree_12 rfl (lv_at hl 0 rfl) ?_
      refine r_getR (k := 4) C hw (is3_s i0) (is3_l i0) cO3 rfl (by decide) tw1_177 rfl dX3_nearestFree_13 ?_
      refine lv_iload_n C.1.1 C.1.2.1 dX3_nearestFree_16 rfl (lv_at hl 3 rfl) ?_
      refine r_iald C hw (is3_s3 i0) (is3_l3 i0) (Nat.le_of_ble_eq_true rfl) dX3_nearestFree_17 hf (fun v17 hf => ?_)
      refine r_iconst (v := (-1)) C dX3_nearestFree_18 ?_
      refine r_icmp_ne C (tgt := 54) dX3_nearestFree_19 (by decide) hf (fun hf => ?_) (fun hf => ?_)
      · exact (w_X3_nearestFree_54 l hinj hZ C out c0 i0 (f_X3_nearestFree_4 c0 N) ih N) x1 x2 x3 S H locs ls hf hw (lv_sub hl [0, 1, 2, 3] rfl)
      · refine lv_iload_n C.1.1 C.1.2.1 dX3_nearestFree_22 rfl (lv_at hl 2 rfl) ?_
        refine r_iconst (v := (-1)) C dX3_nearestFree_23 ?_
        refine r_icmp_eq C (tgt := 52) dX3_nearestFree_24 (by decide) hf (fun hf => ?_) (fun hf => ?_)
        · exact (w_X3_nearestFree_52 l hinj hZ C out c0 i0 (f_X3_nearestFree_4 c0 N) ih N) x1 x3 S H locs ls hf hw (lv_sub hl [0, 1, 3] rfl)
        · refine lv_aload_n C.1.1 C.1.2.1 dX3_nearestFree_27 rfl (lv_at hl 0 rfl) ?_
          refine r_getR (k := 2) C hw (is3_s i0) (is3_l i0) cO3 rfl (by decide) tw1_172 rfl dX3_nearestFree_28 ?_
          refine lv_iload_n C.1.1 C.1.2.1 dX3_nearestFree_31 rfl (lv_at hl 3 rfl) ?_
          refine r_iald C hw (is3_s1 i0) (is3_l1 i0) (Nat.le_of_ble_eq_true rfl) dX3_nearestFree_32 hf (fun v32 hf => ?_)
          refine lv_iload_n C.1.1 C.1.2.1 dX3_nearestFree_33 rfl (lv_at hl 1 rfl) ?_
          refine r_isub C dX3_nearestFree_34 ?_
          refine r_abs C tw3_223 tw3_224 tw1_18 tw3_225 hl.1 (Nat.le_of_ble_eq_true rfl) (Nat.le_of_ble_eq_true rfl) dX3_nearestFree_35 hf (fun v35 hf => ?_)
          refine lv_aload_n C.1.1 C.1.2.1 dX3_nearestFree_38 rfl (lv_at hl 0 rfl) ?_
          refine r_getR (k := 2) C hw (is3_s i0) (is3_l i0) cO3 rfl (by decide) tw1_172 rfl dX3_nearestFree_39 ?_
          refine lv_iload_n C.1.1 C.1.2.1 dX3_nearestFree_42 rfl (lv_at hl 2 rfl) ?_
          refine r_iald C hw (is3_s1 i0) (is3_l1 i0) (Nat.le_of_ble_eq_true rfl) dX3_nearestFree_43 hf (fun v43 hf => ?_)
          refine lv_iload_n C.1.1 C.1.2.1 dX3_nearestFree_44 rfl (lv_at hl 1 rfl) ?_
          refine r_isub C dX3_nearestFree_45 ?_
          refine r_abs C tw3_223 tw3_224 tw1_18 tw3_225 hl.1 (Nat.le_of_ble_eq_true rfl) (Nat.le_of_ble_eq_true rfl) dX3_nearestFree_46 hf (fun v46 hf => ?_)
          refine r_icmp_ge C (tgt := 54) dX3_nearestFree_49 (by decide) hf (fun hf => ?_) (fun hf => ?_)
          · exact (w_X3_nearestFree_54 l hinj hZ C out c0 i0 (f_X3_nearestFree_4 c0 N) ih N) x1 x2 x3 S H locs ls hf hw (lv_sub hl [0, 1, 2, 3] rfl)
          · exact (w_X3_nearestFree_52 l hinj hZ C out c0 i0 (f_X3_nearestFree_4 c0 N) ih N) x1 x3 S H locs ls hf hw (lv_sub hl [0, 1, 3] rfl)
set_option maxRecDepth 100000 in
set_option maxHeartbeats 4000000 in
theorem c_X3_nearestFree (l : Launch) (X : XT) (hinj : XInj X nC) (hZ : ZOK (Zc X)) (N : Nat) (S : S2) (c0 : Nat) (a1 : Int) (i0 : Is3 c0) (out : Int × S2) (hf : f_X3_nearestFree N S c0 a1 = some out) : MI l X shC nC (Zc X) yX3_nearestFree cX3_nearestFree 4 (some .int) rmX3_nearestFree [.ref (X.2.2 c0), .int (iz a1)] S out := by
  refine met_I (own := RX3) (by decide) rfl hinj hZ (Nat.le_of_ble_eq_true rfl) (fun p e s m args below meth c C ls H locs hw hl => ?_)
  unfold f_X3_nearestFree at hf
  have hl : lv_has ls 4 [(0, .ref (X.2.2 c0)), (1, .int (iz a1))] := hl
  refine r_iconst (v := (-1)) C dX3_nearestFree_0 ?_
  refine lv_istore_n (lv' := [(2, .int (iz (-1))), (0, .ref (X.2.2 c0)), (1, .int (iz a1))]) C.1.1 C.1.2.1 dX3_nearestFree_1 rfl hl (by decide) rfl (fun ls hl => ?_)
  refine r_iconst (v := 0) C dX3_nearestFree_2 ?_
  refine lv_istore_n (lv' := [(3, .int (iz 0)), (2, .int (iz (-1))), (0, .ref (X.2.2 c0)), (1, .int (iz a1))]) C.1.1 C.1.2.1 dX3_nearestFree_3 rfl hl (by decide) rfl (fun ls hl => ?_)
  exact (w_X3_nearestFree_4 l hinj hZ C out c0 i0 N) a1 (-1) 0 S H locs ls hf hw (lv_sub hl [2, 3, 1, 0] rfl)
def f_X3_takenBy_2 (c0 : Nat) : Nat → Int → Int → S2 → Option (Int × S2)
  | 0, _, _, _ => none
  | N + 1, x1, x2, S => gI S c0 0 fun v4 => cI x2 v4 (if v4 ≤ x2 then rI (-1) S else aI S (c0 + 3) 8 x2 fun v15 => cI v15 x1 (if v15 = x1 then rI x2 S else (f_X3_takenBy_2 c0 N) x1 (x2 + 1) S))
def f_X3_takenBy (N : Nat) (S : S2) (c0 : Nat) (a1 : Int) : Option (Int × S2) := (f_X3_takenBy_2 c0 N) a1 0 S
abbrev rmX3_takenBy : Room := { frames := 0, cells := 0, slots := 0, locals := 0 }
theorem hd_X3_takenBy : yX3_takenBy.cls ≠ "java/lang/invoke/MethodHandle" ∧ yX3_takenBy.cls ≠ "java/lang/invoke/VarHandle" ∧ (parseMethodDescriptor yX3_takenBy.desc).map (fun d => d.parameters.length) = some 1 := by decide +kernel
set_option maxRecDepth 100000 in
set_option maxHeartbeats 4000000 in
theorem w_X3_takenBy_2 {p : Program} (l : Launch) {e : Env} {s : State} {m : MethodId} {args : Array Value} {below : List Frame} {meth : Method} {c : Code} {X : XT} (hinj : XInj X nC) (hZ : ZOK (Zc X)) (C : CX p s m args meth c cX3_takenBy 3 RX3 (some .int) X nC (Zc X)) (out : Int × S2) (c0 : Nat) (i0 : Is3 c0) : ∀ (N : Nat), ∀ (x1 : Int) (x2 : Int) (S : S2) (H : Heap) (locs : List Loc) (ls : Array Slot), f_X3_takenBy_2 c0 N x1 x2 S = some out → WH X shC nC s S H locs → lv_has ls 3 [(0, .ref (X.2.2 c0)), (1, .int (iz x1)), (2, .int (iz x2))] → W p l e rmX3_takenBy s m args below meth c H locs 0 0 (QI X shC nC s args below out) (F0 m 2 ls []) := by
  intro N
  induction N with
  | zero => intro x1 x2 S H locs ls hf hw hl; cases hf
  | succ N ih =>
    intro x1 x2 S H locs ls hf hw hl
    rw [f_X3_takenBy_2.eq_2] at hf
    refine lv_iload_n C.1.1 C.1.2.1 dX3_takenBy_2 rfl (lv_at hl 2 rfl) ?_
    refine lv_aload_n C.1.1 C.1.2.1 dX3_takenBy_3 rfl (lv_at hl 0 rfl) ?_
    refine r_getI (k := 0) C hw (is3_s i0) (is3_l i0) cO3 rfl (by decide) tw1_166 rfl dX3_takenBy_4 hf (fun v4 hf => ?_)
    refine r_icmp_ge C (tgt := 28) dX3_takenBy_7 (by decide) hf (fun hf => ?_) (fun hf => ?_)
    · refine r_iconst (v := (-1)) C dX3_takenBy_28 ?_
      exact r_retI C hw dX3_takenBy_29 hf
    · refine lv_aload_n C.1.1 C.1.2.1 dX3_takenBy_10 rfl (lv_at hl 0 rfl) ?_
      refine r_getR (k := 4) C hw (is3_s i0) (is3_l i0) cO3 rfl (by decide) tw1_177 rfl dX3_takenBy_11 ?_
      refine lv_iload_n C.1.1 C.1.2.1 dX3_takenBy_14 rfl (lv_at hl 2 rfl) ?_
      refine r_iald C hw (is3_s3 i0) (is3_l3 i0) (Nat.le_of_ble_eq_true rfl) dX3_takenBy_15 hf (fun v15 hf => ?_)
      refine lv_iload_n C.1.1 C.1.2.1 dX3_takenBy_16 rfl (lv_at hl 1 rfl) ?_
      refine r_icmp_ne C (tgt := 22) dX3_takenBy_17 (by decide) hf (fun hf => ?_) (fun hf => ?_)
      · refine lv_iinc (v := iz (x2 + 1)) (lv' := [(2, .int (iz (x2 + 1))), (0, .ref (X.2.2 c0)), (1, .int (iz x1))]) C.1.1 C.1.2.1 dX3_takenBy_22 hl (k := 2) rfl (iz_add _ _) (by decide) rfl (fun ls hl => ?_)
        refine lv_goto (tgt := 2) C.1.1 C.1.2.1 dX3_takenBy_25 (by decide) ?_
        exact ih x1 (x2 + 1) S H locs ls hf hw (lv_sub hl [1, 2, 0] rfl)
      · refine lv_iload_n C.1.1 C.1.2.1 dX3_takenBy_20 rfl (lv_at hl 2 rfl) ?_
        exact r_retI C hw dX3_takenBy_21 hf
set_option maxRecDepth 100000 in
set_option maxHeartbeats 4000000 in
theorem c_X3_takenBy (l : Launch) (X : XT) (hinj : XInj X nC) (hZ : ZOK (Zc X)) (N : Nat) (S : S2) (c0 : Nat) (a1 : Int) (i0 : Is3 c0) (out : Int × S2) (hf : f_X3_takenBy N S c0 a1 = some out) : MI l X shC nC (Zc X) yX3_takenBy cX3_takenBy 3 (some .int) rmX3_takenBy [.ref (X.2.2 c0), .int (iz a1)] S out := by
  refine met_I (own := RX3) (by decide) rfl hinj hZ (Nat.le_of_ble_eq_true rfl) (fun p e s m args below meth c C ls H locs hw hl => ?_)
  unfold f_X3_takenBy at hf
  have hl : lv_has ls 3 [(0, .ref (X.2.2 c0)), (1, .int (iz a1))] := hl
  refine r_iconst (v := 0) C dX3_takenBy_0 ?_
  refine lv_istore_n (lv' := [(2, .int (iz 0)), (0, .ref (X.2.2 c0)), (1, .int (iz a1))]) C.1.1 C.1.2.1 dX3_takenBy_1 rfl hl (by decide) rfl (fun ls hl => ?_)
  exact (w_X3_takenBy_2 l hinj hZ C out c0 i0 N) a1 0 S H locs ls hf hw (lv_sub hl [1, 2, 0] rfl)
def f_X4_copyFrom (N : Nat) (S : S2) (c0 : Nat) (c1 : Nat) : Option (S2) := gI S c1 0 fun v2 => uI S c0 0 v2 fun S5 => gI S5 c1 1 fun v10 => uI S5 c0 1 v10 fun S13 => cpI S13 (c1 + 1) (c0 + 1) 100 100 0 0 100 fun S28 => cpI S28 (c1 + 2) (c0 + 2) 100 100 0 0 100 fun S43 => cpI S43 (c1 + 3) (c0 + 3) 100 100 0 0 100 fun S58 => rV S58
abbrev rmX4_copyFrom : Room := { frames := 1, cells := 0, slots := 0, locals := 26 }
theorem hd_X4_copyFrom : yX4_copyFrom.cls ≠ "java/lang/invoke/MethodHandle" ∧ yX4_copyFrom.cls ≠ "java/lang/invoke/VarHandle" ∧ (parseMethodDescriptor yX4_copyFrom.desc).map (fun d => d.parameters.length) = some 1 := by decide +kernel
set_option maxRecDepth 100000 in
set_option maxHeartbeats 4000000 in
theorem c_X4_copyFrom (l : Launch) (X : XT) (hinj : XInj X nC) (hZ : ZOK (Zc X)) (N : Nat) (S : S2) (c0 : Nat) (c1 : Nat) (i0 : Is4 c0) (i1 : Is4 c1) (out : S2) (hf : f_X4_copyFrom N S c0 c1 = some out) : MV l X shC nC (Zc X) yX4_copyFrom cX4_copyFrom 2 none rmX4_copyFrom [.ref (X.2.2 c0), .ref (X.2.2 c1)] S out := by
  refine met_V (own := RX4) (by decide) rfl hinj hZ (Nat.le_of_ble_eq_true rfl) (fun p e s m args below meth c C ls H locs hw hl => ?_)
  unfold f_X4_copyFrom at hf
  have hl : lv_has ls 2 [(0, .ref (X.2.2 c0)), (1, .ref (X.2.2 c1))] := hl
  refine lv_aload_n C.1.1 C.1.2.1 dX4_copyFrom_0 rfl (lv_at hl 0 rfl) ?_
  refine lv_aload_n C.1.1 C.1.2.1 dX4_copyFrom_1 rfl (lv_at hl 1 rfl) ?_
  refine r_getI (k := 0) C hw (is4_s i1) (is4_l i1) cO4 rfl (by decide) tw1_219 rfl dX4_copyFrom_2 hf (fun v2 hf => ?_)
  refine r_putI (k := 0) C hw (is4_s i0) (is4_l i0) cO4 rfl (by decide) tw1_219 rfl rfl rfl dX4_copyFrom_5 hf (fun S5 H locs hf hw => ?_)
  refine lv_aload_n C.1.1 C.1.2.1 dX4_copyFrom_8 rfl (lv_at hl 0 rfl) ?_
  refine lv_aload_n C.1.1 C.1.2.1 dX4_copyFrom_9 rfl (lv_at hl 1 rfl) ?_
  refine r_getI (k := 1) C hw (is4_s i1) (is4_l i1) cO4 rfl (by decide) tw1_220 rfl dX4_copyFrom_10 hf (fun v10 hf => ?_)
  refine r_putI (k := 1) C hw (is4_s i0) (is4_l i0) cO4 rfl (by decide) tw1_220 rfl rfl rfl dX4_copyFrom_13 hf (fun S13 H locs hf hw => ?_)
  refine lv_aload_n C.1.1 C.1.2.1 dX4_copyFrom_16 rfl (lv_at hl 1 rfl) ?_
  refine r_getR (k := 2) C hw (is4_s i1) (is4_l i1) cO4 rfl (by decide) tw1_221 rfl dX4_copyFrom_17 ?_
  refine r_iconst (v := 0) C dX4_copyFrom_20 ?_
  refine lv_aload_n C.1.1 C.1.2.1 dX4_copyFrom_21 rfl (lv_at hl 0 rfl) ?_
  refine r_getR (k := 2) C hw (is4_s i0) (is4_l i0) cO4 rfl (by decide) tw1_221 rfl dX4_copyFrom_22 ?_
  refine r_iconst (v := 0) C dX4_copyFrom_25 ?_
  refine r_bipush (v := 100) C dX4_copyFrom_26 (by decide) ?_
  refine r_cpI C hw (is4_s1 i1) (is4_s1 i0) (is4_l1 i1) (is4_l1 i0) tw5_46 tw3_56 tw3_55 tw1_17 hl.1 (Nat.le_of_ble_eq_true rfl) (Nat.le_of_ble_eq_true rfl) (Nat.le_of_ble_eq_true rfl) (Nat.le_of_ble_eq_true rfl) dX4_copyFrom_28 hf (fun S28 H locs hf hw => ?_)
  refine lv_aload_n C.1.1 C.1.2.1 dX4_copyFrom_31 rfl (lv_at hl 1 rfl) ?_
  refine r_getR (k := 3) C hw (is4_s i1) (is4_l i1) cO4 rfl (by decide) tw1_222 rfl dX4_copyFrom_32 ?_
  refine r_iconst (v := 0) C dX4_copyFrom_35 ?_
  refine lv_aload_n C.1.1 C.1.2.1 dX4_copyFrom_36 rfl (lv_at hl 0 rfl) ?_
  refine r_getR (k := 3) C hw (is4_s i0) (is4_l i0) cO4 rfl (by decide) tw1_222 rfl dX4_copyFrom_37 ?_
  refine r_iconst (v := 0) C dX4_copyFrom_40 ?_
  refine r_bipush (v := 100) C dX4_copyFrom_41 (by decide) ?_
  refine r_cpI C hw (is4_s2 i1) (is4_s2 i0) (is4_l2 i1) (is4_l2 i0) tw5_46 tw3_56 tw3_55 tw1_17 hl.1 (Nat.le_of_ble_eq_true rfl) (Nat.le_of_ble_eq_true rfl) (Nat.le_of_ble_eq_true rfl) (Nat.le_of_ble_eq_true rfl) dX4_copyFrom_43 hf (fun S43 H locs hf hw => ?_)
  refine lv_aload_n C.1.1 C.1.2.1 dX4_copyFrom_46 rfl (lv_at hl 1 rfl) ?_
  refine r_getR (k := 4) C hw (is4_s i1) (is4_l i1) cO4 rfl (by decide) tw1_223 rfl dX4_copyFrom_47 ?_
  refine r_iconst (v := 0) C dX4_copyFrom_50 ?_
  refine lv_aload_n C.1.1 C.1.2.1 dX4_copyFrom_51 rfl (lv_at hl 0 rfl) ?_
  refine r_getR (k := 4) C hw (is4_s i0) (is4_l i0) cO4 rfl (by decide) tw1_223 rfl dX4_copyFrom_52 ?_
  refine r_iconst (v := 0) C dX4_copyFrom_55 ?_
  refine r_bipush (v := 100) C dX4_copyFrom_56 (by decide) ?_
  refine r_cpI C hw (is4_s3 i1) (is4_s3 i0) (is4_l3 i1) (is4_l3 i0) tw5_46 tw3_56 tw3_55 tw1_17 hl.1 (Nat.le_of_ble_eq_true rfl) (Nat.le_of_ble_eq_true rfl) (Nat.le_of_ble_eq_true rfl) (Nat.le_of_ble_eq_true rfl) dX4_copyFrom_58 hf (fun S58 H locs hf hw => ?_)
  exact r_retV C hw dX4_copyFrom_61 hf
def f_X4_forget (N : Nat) (S : S2) (c0 : Nat) : Option (S2) := uI S c0 0 0 fun S2 => rV S2
abbrev rmX4_forget : Room := { frames := 0, cells := 0, slots := 0, locals := 0 }
theorem hd_X4_forget : yX4_forget.cls ≠ "java/lang/invoke/MethodHandle" ∧ yX4_forget.cls ≠ "java/lang/invoke/VarHandle" ∧ (parseMethodDescriptor yX4_forget.desc).map (fun d => d.parameters.length) = some 0 := by decide +kernel
set_option maxRecDepth 100000 in
set_option maxHeartbeats 4000000 in
theorem c_X4_forget (l : Launch) (X : XT) (hinj : XInj X nC) (hZ : ZOK (Zc X)) (N : Nat) (S : S2) (c0 : Nat) (i0 : Is4 c0) (out : S2) (hf : f_X4_forget N S c0 = some out) : MV l X shC nC (Zc X) yX4_forget cX4_forget 1 none rmX4_forget [.ref (X.2.2 c0)] S out := by
  refine met_V (own := RX4) (by decide) rfl hinj hZ (Nat.le_of_ble_eq_true rfl) (fun p e s m args below meth c C ls H locs hw hl => ?_)
  unfold f_X4_forget at hf
  have hl : lv_has ls 1 [(0, .ref (X.2.2 c0))] := hl
  refine lv_aload_n C.1.1 C.1.2.1 dX4_forget_0 rfl (lv_at hl 0 rfl) ?_
  refine r_iconst (v := 0) C dX4_forget_1 ?_
  refine r_putI (k := 0) C hw (is4_s i0) (is4_l i0) cO4 rfl (by decide) tw1_219 rfl rfl rfl dX4_forget_2 hf (fun S2 H locs hf hw => ?_)
  exact r_retV C hw dX4_forget_5 hf
def f_X4_add (N : Nat) (S : S2) (c0 : Nat) (a1 : Int) (a2 : Int) (a3 : Int) : Option (S2) := gI S c0 1 fun v5 => sI S (c0 + 1) 100 v5 a1 fun S9 => gI S9 c0 1 fun v15 => sI S9 (c0 + 2) 100 v15 a2 fun S19 => gI S19 c0 1 fun v25 => sI S19 (c0 + 3) 100 v25 a3 fun S29 => gI S29 c0 1 fun v32 => rmI (v32 + 1) 100 fun v39 => uI S29 c0 1 v39 fun S40 => gI S40 c0 0 fun v45 => mnI (v45 + 1) 100 fun v52 => uI S40 c0 0 v52 fun S55 => rV S55
abbrev rmX4_add : Room := { frames := 1, cells := 0, slots := 0, locals := 21 }
theorem hd_X4_add : yX4_add.cls ≠ "java/lang/invoke/MethodHandle" ∧ yX4_add.cls ≠ "java/lang/invoke/VarHandle" ∧ (parseMethodDescriptor yX4_add.desc).map (fun d => d.parameters.length) = some 3 := by decide +kernel
set_option maxRecDepth 100000 in
set_option maxHeartbeats 4000000 in
theorem c_X4_add (l : Launch) (X : XT) (hinj : XInj X nC) (hZ : ZOK (Zc X)) (N : Nat) (S : S2) (c0 : Nat) (a1 : Int) (a2 : Int) (a3 : Int) (i0 : Is4 c0) (out : S2) (hf : f_X4_add N S c0 a1 a2 a3 = some out) : MV l X shC nC (Zc X) yX4_add cX4_add 4 none rmX4_add [.ref (X.2.2 c0), .int (iz a1), .int (iz a2), .int (iz a3)] S out := by
  refine met_V (own := RX4) (by decide) rfl hinj hZ (Nat.le_of_ble_eq_true rfl) (fun p e s m args below meth c C ls H locs hw hl => ?_)
  unfold f_X4_add at hf
  have hl : lv_has ls 4 [(0, .ref (X.2.2 c0)), (1, .int (iz a1)), (2, .int (iz a2)), (3, .int (iz a3))] := hl
  refine lv_aload_n C.1.1 C.1.2.1 dX4_add_0 rfl (lv_at hl 0 rfl) ?_
  refine r_getR (k := 2) C hw (is4_s i0) (is4_l i0) cO4 rfl (by decide) tw1_221 rfl dX4_add_1 ?_
  refine lv_aload_n C.1.1 C.1.2.1 dX4_add_4 rfl (lv_at hl 0 rfl) ?_
  refine r_getI (k := 1) C hw (is4_s i0) (is4_l i0) cO4 rfl (by decide) tw1_220 rfl dX4_add_5 hf (fun v5 hf => ?_)
  refine lv_iload_n C.1.1 C.1.2.1 dX4_add_8 rfl (lv_at hl 1 rfl) ?_
  refine r_iast C hw (is4_s1 i0) (is4_l1 i0) (Nat.le_of_ble_eq_true rfl) dX4_add_9 hf (fun S9 H locs hf hw => ?_)
  refine lv_aload_n C.1.1 C.1.2.1 dX4_add_10 rfl (lv_at hl 0 rfl) ?_
  refine r_getR (k := 3) C hw (is4_s i0) (is4_l i0) cO4 rfl (by decide) tw1_222 rfl dX4_add_11 ?_
  refine lv_aload_n C.1.1 C.1.2.1 dX4_add_14 rfl (lv_at hl 0 rfl) ?_
  refine r_getI (k := 1) C hw (is4_s i0) (is4_l i0) cO4 rfl (by decide) tw1_220 rfl dX4_add_15 hf (fun v15 hf => ?_)
  refine lv_iload_n C.1.1 C.1.2.1 dX4_add_18 rfl (lv_at hl 2 rfl) ?_
  refine r_iast C hw (is4_s2 i0) (is4_l2 i0) (Nat.le_of_ble_eq_true rfl) dX4_add_19 hf (fun S19 H locs hf hw => ?_)
  refine lv_aload_n C.1.1 C.1.2.1 dX4_add_20 rfl (lv_at hl 0 rfl) ?_
  refine r_getR (k := 4) C hw (is4_s i0) (is4_l i0) cO4 rfl (by decide) tw1_223 rfl dX4_add_21 ?_
  refine lv_aload_n C.1.1 C.1.2.1 dX4_add_24 rfl (lv_at hl 0 rfl) ?_
  refine r_getI (k := 1) C hw (is4_s i0) (is4_l i0) cO4 rfl (by decide) tw1_220 rfl dX4_add_25 hf (fun v25 hf => ?_)
  refine lv_iload_n C.1.1 C.1.2.1 dX4_add_28 rfl (lv_at hl 3 rfl) ?_
  refine r_iast C hw (is4_s3 i0) (is4_l3 i0) (Nat.le_of_ble_eq_true rfl) dX4_add_29 hf (fun S29 H locs hf hw => ?_)
  refine lv_aload_n C.1.1 C.1.2.1 dX4_add_30 rfl (lv_at hl 0 rfl) ?_
  refine lv_aload_n C.1.1 C.1.2.1 dX4_add_31 rfl (lv_at hl 0 rfl) ?_
  refine r_getI (k := 1) C hw (is4_s i0) (is4_l i0) cO4 rfl (by decide) tw1_220 rfl dX4_add_32 hf (fun v32 hf => ?_)
  refine r_iconst (v := 1) C dX4_add_35 ?_
  refine r_iadd C dX4_add_36 ?_
  refine r_bipush (v := 100) C dX4_add_37 (by decide) ?_
  refine r_irem C dX4_add_39 hf (fun v39 hf => ?_)
  refine r_putI (k := 1) C hw (is4_s i0) (is4_l i0) cO4 rfl (by decide) tw1_220 rfl rfl rfl dX4_add_40 hf (fun S40 H locs hf hw => ?_)
  refine lv_aload_n C.1.1 C.1.2.1 dX4_add_43 rfl (lv_at hl 0 rfl) ?_
  refine lv_aload_n C.1.1 C.1.2.1 dX4_add_44 rfl (lv_at hl 0 rfl) ?_
  refine r_getI (k := 0) C hw (is4_s i0) (is4_l i0) cO4 rfl (by decide) tw1_219 rfl dX4_add_45 hf (fun v45 hf => ?_)
  refine r_iconst (v := 1) C dX4_add_48 ?_
  refine r_iadd C dX4_add_49 ?_
  refine r_bipush (v := 100) C dX4_add_50 (by decide) ?_
  refine r_min C tw4_70 tw3_83 tw1_18 tw3_84 hl.1 (Nat.le_of_ble_eq_true rfl) (Nat.le_of_ble_eq_true rfl) dX4_add_52 hf (fun v52 hf => ?_)
  refine r_putI (k := 0) C hw (is4_s i0) (is4_l i0) cO4 rfl (by decide) tw1_219 rfl rfl rfl dX4_add_55 hf (fun S55 H locs hf hw => ?_)
  exact r_retV C hw dX4_add_58 hf
def f_X4_dropLatest (N : Nat) (S : S2) (c0 : Nat) : Option (S2) := gI S c0 0 fun v1 => cI v1 0 (if v1 ≤ 0 then rV S else gI S c0 1 fun v9 => rmI ((v9 + 100) - 1) 100 fun v19 => uI S c0 1 v19 fun S20 => gI S20 c0 0 fun v25 => uI S20 c0 0 (v25 - 1) fun S30 => rV S30)
abbrev rmX4_dropLatest : Room := { frames := 0, cells := 0, slots := 0, locals := 0 }
theorem hd_X4_dropLatest : yX4_dropLatest.cls ≠ "java/lang/invoke/MethodHandle" ∧ yX4_dropLatest.cls ≠ "java/lang/invoke/VarHandle" ∧ (parseMethodDescriptor yX4_dropLatest.desc).map (fun d => d.parameters.length) = some 0 := by decide +kernel
set_option maxRecDepth 100000 in
set_option maxHeartbeats 4000000 in
theorem c_X4_dropLatest (l : Launch) (X : XT) (hinj : XInj X nC) (hZ : ZOK (Zc X)) (N : Nat) (S : S2) (c0 : Nat) (i0 : Is4 c0) (out : S2) (hf : f_X4_dropLatest N S c0 = some out) : MV l X shC nC (Zc X) yX4_dropLatest cX4_dropLatest 1 none rmX4_dropLatest [.ref (X.2.2 c0)] S out := by
  refine met_V (own := RX4) (by decide) rfl hinj hZ (Nat.le_of_ble_eq_true rfl) (fun p e s m args below meth c C ls H locs hw hl => ?_)
  unfold f_X4_dropLatest at hf
  have hl : lv_has ls 1 [(0, .ref (X.2.2 c0))] := hl
  refine lv_aload_n C.1.1 C.1.2.1 dX4_dropLatest_0 rfl (lv_at hl 0 rfl) ?_
  refine r_getI (k := 0) C hw (is4_s i0) (is4_l i0) cO4 rfl (by decide) tw1_219 rfl dX4_dropLatest_1 hf (fun v1 hf => ?_)
  refine r_if_le C (tgt := 33) dX4_dropLatest_4 (by decide) hf (fun hf => ?_) (fun hf => ?_)
  · exact r_retV C hw dX4_dropLatest_33 hf
  · refine lv_aload_n C.1.1 C.1.2.1 dX4_dropLatest_7 rfl (lv_at hl 0 rfl) ?_
    refine lv_aload_n C.1.1 C.1.2.1 dX4_dropLatest_8 rfl (lv_at hl 0 rfl) ?_
    refine r_getI (k := 1) C hw (is4_s i0) (is4_l i0) cO4 rfl (by decide) tw1_220 rfl dX4_dropLatest_9 hf (fun v9 hf => ?_)
    refine r_bipush (v := 100) C dX4_dropLatest_12 (by decide) ?_
    refine r_iadd C dX4_dropLatest_14 ?_
    refine r_iconst (v := 1) C dX4_dropLatest_15 ?_
    refine r_isub C dX4_dropLatest_16 ?_
    refine r_bipush (v := 100) C dX4_dropLatest_17 (by decide) ?_
    refine r_irem C dX4_dropLatest_19 hf (fun v19 hf => ?_)
    refine r_putI (k := 1) C hw (is4_s i0) (is4_l i0) cO4 rfl (by decide) tw1_220 rfl rfl rfl dX4_dropLatest_20 hf (fun S20 H locs hf hw => ?_)
    refine lv_aload_n C.1.1 C.1.2.1 dX4_dropLatest_23 rfl (lv_at hl 0 rfl) ?_
    refine lv_dup C.1.1 C.1.2.1 dX4_dropLatest_24 rfl ?_
    refine r_getI (k := 0) C hw (is4_s i0) (is4_l i0) cO4 rfl (by decide) tw1_219 rfl dX4_dropLatest_25 hf (fun v25 hf => ?_)
    refine r_iconst (v := 1) C dX4_dropLatest_28 ?_
    refine r_isub C dX4_dropLatest_29 ?_
    refine r_putI (k := 0) C hw (is4_s i0) (is4_l i0) cO4 rfl (by decide) tw1_219 rfl rfl rfl dX4_dropLatest_30 hf (fun S30 H locs hf hw => ?_)
    exact r_retV C hw dX4_dropLatest_33 hf
def f_X4_shown (N : Nat) (S : S2) (c0 : Nat) : Option (Int × S2) := gI S c0 0 fun v1 => mnI v1 60 fun v6 => rI v6 S
abbrev rmX4_shown : Room := { frames := 1, cells := 0, slots := 0, locals := 21 }
theorem hd_X4_shown : yX4_shown.cls ≠ "java/lang/invoke/MethodHandle" ∧ yX4_shown.cls ≠ "java/lang/invoke/VarHandle" ∧ (parseMethodDescriptor yX4_shown.desc).map (fun d => d.parameters.length) = some 0 := by decide +kernel
set_option maxRecDepth 100000 in
set_option maxHeartbeats 4000000 in
theorem c_X4_shown (l : Launch) (X : XT) (hinj : XInj X nC) (hZ : ZOK (Zc X)) (N : Nat) (S : S2) (c0 : Nat) (i0 : Is4 c0) (out : Int × S2) (hf : f_X4_shown N S c0 = some out) : MI l X shC nC (Zc X) yX4_shown cX4_shown 1 (some .int) rmX4_shown [.ref (X.2.2 c0)] S out := by
  refine met_I (own := RX4) (by decide) rfl hinj hZ (Nat.le_of_ble_eq_true rfl) (fun p e s m args below meth c C ls H locs hw hl => ?_)
  unfold f_X4_shown at hf
  have hl : lv_has ls 1 [(0, .ref (X.2.2 c0))] := hl
  refine lv_aload_n C.1.1 C.1.2.1 dX4_shown_0 rfl (lv_at hl 0 rfl) ?_
  refine r_getI (k := 0) C hw (is4_s i0) (is4_l i0) cO4 rfl (by decide) tw1_219 rfl dX4_shown_1 hf (fun v1 hf => ?_)
  refine r_bipush (v := 60) C dX4_shown_4 (by decide) ?_
  refine r_min C tw4_70 tw3_83 tw1_18 tw3_84 hl.1 (Nat.le_of_ble_eq_true rfl) (Nat.le_of_ble_eq_true rfl) dX4_shown_6 hf (fun v6 hf => ?_)
  exact r_retI C hw dX4_shown_9 hf
def f_X4_tell (N : Nat) (S : S2) (c0 : Nat) (a1 : Int) (a2 : Int) : Option (Int × S2) := cI a1 0 (if a1 < 0 then rI (-1000000) S else bI (f_X4_shown N S c0) fun v6 S6 => cI a1 v6 (if a1 < v6 then gI S6 c0 1 fun v16 => rmI (((v16 + 100) - 1) - a1) 100 fun v28 => cI a2 0 (if a2 = 0 then aI S6 (c0 + 1) 100 v28 fun v61 => rI v61 S6 else (if a2 = 1 then aI S6 (c0 + 2) 100 v28 fun v68 => rI v68 S6 else (if a2 = 2 then aI S6 (c0 + 3) 100 v28 fun v75 => rI v75 S6 else rI (-1000000) S6))) else rI (-1000000) S6))
abbrev rmX4_tell : Room := { frames := 2, cells := 0, slots := 0, locals := 41 }
theorem hd_X4_tell : yX4_tell.cls ≠ "java/lang/invoke/MethodHandle" ∧ yX4_tell.cls ≠ "java/lang/invoke/VarHandle" ∧ (parseMethodDescriptor yX4_tell.desc).map (fun d => d.parameters.length) = some 2 := by decide +kernel
set_option maxRecDepth 100000 in
set_option maxHeartbeats 4000000 in
theorem c_X4_tell (l : Launch) (X : XT) (hinj : XInj X nC) (hZ : ZOK (Zc X)) (N : Nat) (S : S2) (c0 : Nat) (a1 : Int) (a2 : Int) (i0 : Is4 c0) (out : Int × S2) (hf : f_X4_tell N S c0 a1 a2 = some out) : MI l X shC nC (Zc X) yX4_tell cX4_tell 4 (some .int) rmX4_tell [.ref (X.2.2 c0), .int (iz a1), .int (iz a2)] S out := by
  refine met_I (own := RX4) (by decide) rfl hinj hZ (Nat.le_of_ble_eq_true rfl) (fun p e s m args below meth c C ls H locs hw hl => ?_)
  unfold f_X4_tell at hf
  have hl : lv_has ls 4 [(0, .ref (X.2.2 c0)), (1, .int (iz a1)), (2, .int (iz a2))] := hl
  refine lv_iload_n C.1.1 C.1.2.1 dX4_tell_0 rfl (lv_at hl 1 rfl) ?_
  refine r_if_lt C (tgt := 12) dX4_tell_1 (by decide) hf (fun hf => ?_) (fun hf => ?_)
  · refine r_ldc (v := (-1000000)) C tw4_149 (by decide) dX4_tell_12 ?_
    exact r_retI C hw dX4_tell_14 hf
  · refine lv_iload_n C.1.1 C.1.2.1 dX4_tell_4 rfl (lv_at hl 1 rfl) ?_
    refine lv_aload_n C.1.1 C.1.2.1 dX4_tell_5 rfl (lv_at hl 0 rfl) ?_
    refine r_callI (As := []) (rest := [.int (iz a1)]) (rm := rmX4_shown) C hw (is4_s i0) (is4_l i0) cO4 tw4_145 tw4_146 tw4_147 tw1_8 tw4_148 hd_X4_shown rfl ⟨⟨rfl, rfl⟩, Nat.le_of_ble_eq_true rfl, Nat.le_of_ble_eq_true rfl⟩ hl.1 rfl (Nat.le_of_ble_eq_true rfl) dX4_tell_6 hf (fun o ho => c_X4_shown l X hinj hZ N S c0 i0 o ho) (fun v6 S6 H locs hf hw => ?_)
    refine r_icmp_lt C (tgt := 15) dX4_tell_9 (by decide) hf (fun hf => ?_) (fun hf => ?_)
    · refine lv_aload_n C.1.1 C.1.2.1 dX4_tell_15 rfl (lv_at hl 0 rfl) ?_
      refine r_getI (k := 1) C hw (is4_s i0) (is4_l i0) cO4 rfl (by decide) tw1_220 rfl dX4_tell_16 hf (fun v16 hf => ?_)
      refine r_bipush (v := 100) C dX4_tell_19 (by decide) ?_
      refine r_iadd C dX4_tell_21 ?_
      refine r_iconst (v := 1) C dX4_tell_22 ?_
      refine r_isub C dX4_tell_23 ?_
      refine lv_iload_n C.1.1 C.1.2.1 dX4_tell_24 rfl (lv_at hl 1 rfl) ?_
      refine r_isub C dX4_tell_25 ?_
      refine r_bipush (v := 100) C dX4_tell_26 (by decide) ?_
      refine r_irem C dX4_tell_28 hf (fun v28 hf => ?_)
      refine lv_istore_n (lv' := [(3, .int (iz v28)), (0, .ref (X.2.2 c0)), (1, .int (iz a1)), (2, .int (iz a2))]) C.1.1 C.1.2.1 dX4_tell_29 rfl hl (by decide) rfl (fun ls hl => ?_)
      refine lv_iload_n C.1.1 C.1.2.1 dX4_tell_30 rfl (lv_at hl 3 rfl) ?_
      obtain ⟨⟨hsw, -⟩, hf⟩ := cI_some hf
      rcases ite_some hf with ⟨hc31_0, hf⟩ | ⟨hc31_0, hf⟩
      · refine lv_tableIn (tgt := 56) C.1.1 C.1.2.1 dX4_tell_31 (by rw [hc31_0]; decide) (by rw [hc31_0]; decide) (by rw [hc31_0]; rfl) (by decide) ?_
        refine lv_aload_n C.1.1 C.1.2.1 dX4_tell_56 rfl (lv_at hl 1 rfl) ?_
        refine r_getR (k := 2) C hw (is4_s i0) (is4_l i0) cO4 rfl (by decide) tw1_221 rfl dX4_tell_57 ?_
        refine lv_iload_n C.1.1 C.1.2.1 dX4_tell_60 rfl (lv_at hl 0 rfl) ?_
        refine r_iald C hw (is4_s1 i0) (is4_l1 i0) (Nat.le_of_ble_eq_true rfl) dX4_tell_61 hf (fun v61 hf => ?_)
        exact r_retI C hw dX4_tell_62 hf
      · skip
        rcases ite_some hf with ⟨hc31_1, hf⟩ | ⟨hc31_1, hf⟩
        · refine lv_tableIn (tgt := 63) C.1.1 C.1.2.1 dX4_tell_31 (by rw [hc31_1]; decide) (by rw [hc31_1]; decide) (by rw [hc31_1]; rfl) (by decide) ?_
          refine lv_aload_n C.1.1 C.1.2.1 dX4_tell_63 rfl (lv_at hl 1 rfl) ?_
          refine r_getR (k := 3) C hw (is4_s i0) (is4_l i0) cO4 rfl (by decide) tw1_222 rfl dX4_tell_64 ?_
          refine lv_iload_n C.1.1 C.1.2.1 dX4_tell_67 rfl (lv_at hl 0 rfl) ?_
          refine r_iald C hw (is4_s2 i0) (is4_l2 i0) (Nat.le_of_ble_eq_true rfl) dX4_tell_68 hf (fun v68 hf => ?_)
          exact r_retI C hw dX4_tell_69 hf
        · skip
          rcases ite_some hf with ⟨hc31_2, hf⟩ | ⟨hc31_2, hf⟩
          · refine lv_tableIn (tgt := 70) C.1.1 C.1.2.1 dX4_tell_31 (by rw [hc31_2]; decide) (by rw [hc31_2]; decide) (by rw [hc31_2]; rfl) (by decide) ?_
            refine lv_aload_n C.1.1 C.1.2.1 dX4_tell_70 rfl (lv_at hl 1 rfl) ?_
            refine r_getR (k := 4) C hw (is4_s i0) (is4_l i0) cO4 rfl (by decide) tw1_223 rfl dX4_tell_71 ?_
            refine lv_iload_n C.1.1 C.1.2.1 dX4_tell_74 rfl (lv_at hl 0 rfl) ?_
            refine r_iald C hw (is4_s3 i0) (is4_l3 i0) (Nat.le_of_ble_eq_true rfl) dX4_tell_75 hf (fun v75 hf => ?_)
            exact r_retI C hw dX4_tell_76 hf
          · skip
            refine lv_tableOut (tgt := 77) C.1.1 C.1.2.1 dX4_tell_31 (by rw [sw_in hsw]; omega) (by decide) ?_
            refine r_ldc (v := (-1000000)) C tw4_149 (by decide) dX4_tell_77 ?_
            exact r_retI C hw dX4_tell_79 hf
    · refine r_ldc (v := (-1000000)) C tw4_149 (by decide) dX4_tell_12 ?_
      exact r_retI C hw dX4_tell_14 hf
def f_X5_sortByHeight_58 (c0 : Nat) (c1 : Nat) (k2 : Int → S2 → Option (S2)) (N : Nat) (x2 : Int) (x3 : Int) (S : S2) : Option (S2) := sI S (c0 + 1) 48 x3 x2 fun S64 => k2 (x2 + 1) S64
def f_X5_sortByHeight_12 (c0 : Nat) (c1 : Nat) (k58 : Int → Int → S2 → Option (S2)) : Nat → Int → Int → S2 → Option (S2)
  | 0, _, _, _ => none
  | N + 1, x2, x3, S => cI x3 0 (if x3 ≤ 0 then k58 x2 x3 S else aI S (c0 + 1) 48 (x3 - 1) fun v27 => aI S (c1 + 1) 48 v27 fun v28 => aI S (c1 + 1) 48 x2 fun v34 => cI v28 v34 (if v34 ≤ v28 then k58 x2 x3 S else aI S (c0 + 1) 48 (x3 - 1) fun v50 => sI S (c0 + 1) 48 x3 v50 fun S51 => (f_X5_sortByHeight_12 c0 c1 k58 N) x2 (x3 + (-1)) S51))
def f_X5_sortByHeight_2 (c0 : Nat) (c1 : Nat) : Nat → Int → S2 → Option (S2)
  | 0, _, _ => none
  | N + 1, x2, S => gI S c1 1 fun v4 => cI x2 v4 (if v4 ≤ x2 then rV S else (f_X5_sortByHeight_12 c0 c1 (f_X5_sortByHeight_58 c0 c1 (f_X5_sortByHeight_2 c0 c1 N) N) N) x2 x2 S)
def f_X5_sortByHeight (N : Nat) (S : S2) (c0 : Nat) (c1 : Nat) : Option (S2) := (f_X5_sortByHeight_2 c0 c1 N) 0 S
abbrev rmX5_sortByHeight : Room := { frames := 0, cells := 0, slots := 0, locals := 0 }
theorem hd_X5_sortByHeight : yX5_sortByHeight.cls ≠ "java/lang/invoke/MethodHandle" ∧ yX5_sortByHeight.cls ≠ "java/lang/invoke/VarHandle" ∧ (parseMethodDescriptor yX5_sortByHeight.desc).map (fun d => d.parameters.length) = some 1 := by decide +kernel
set_option maxRecDepth 100000 in
set_option maxHeartbeats 4000000 in
theorem w_X5_sortByHeight_58 {p : Program} (l : Launch) {e : Env} {s : State} {m : MethodId} {args : Array Value} {below : List Frame} {meth : Method} {c : Code} {X : XT} (hinj : XInj X nC) (hZ : ZOK (Zc X)) (C : CX p s m args meth c cX5_sortByHeight 4 RX5 none X nC (Zc X)) (out : S2) (c0 : Nat) (c1 : Nat) (i0 : Is5 c0) (i1 : Is0 c1) (k2 : Int → S2 → Option (S2)) (hk2 : ∀ (x2 : Int) (S : S2) (H : Heap) (locs : List Loc) (ls : Array Slot), k2 x2 S = some out → WH X shC nC s S H locs → lv_has ls 4 [(0, .ref (X.2.2 c0)), (1, .ref (X.2.2 c1)), (2, .int (iz x2))] → W p l e rmX5_sortByHeight s m args below meth c H locs 0 0 (QV X shC nC s args below out) (F0 m 2 ls [])) : ∀ (N : Nat), ∀ (x2 : Int) (x3 : Int) (S : S2) (H : Heap) (locs : List Loc) (ls : Array Slot), f_X5_sortByHeight_58 c0 c1 k2 N x2 x3 S = some out → WH X shC nC s S H locs → lv_has ls 4 [(0, .ref (X.2.2 c0)), (1, .ref (X.2.2 c1)), (2, .int (iz x2)), (3, .int (iz x3))] → W p l e rmX5_sortByHeight s m args below meth c H locs 0 0 (QV X shC nC s args below out) (F0 m 58 ls []) := by
  intro N x2 x3 S H locs ls hf hw hl
  unfold f_X5_sortByHeight_58 at hf
  refine lv_aload_n C.1.1 C.1.2.1 dX5_sortByHeight_58 rfl (lv_at hl 0 rfl) ?_
  refine r_getR (k := 2) C hw (is5_s i0) (is5_l i0) cO5 rfl (by decide) tw1_116 rfl dX5_sortByHeight_59 ?_
  refine lv_iload_n C.1.1 C.1.2.1 dX5_sortByHeight_62 rfl (lv_at hl 3 rfl) ?_
  refine lv_iload_n C.1.1 C.1.2.1 dX5_sortByHeight_63 rfl (lv_at hl 2 rfl) ?_
  refine r_iast C hw (is5_s1 i0) (is5_l1 i0) (Nat.le_of_ble_eq_true rfl) dX5_sortByHeight_64 hf (fun S64 H locs hf hw => ?_)
  refine lv_iinc (v := iz (x2 + 1)) (lv' := [(2, .int (iz (x2 + 1))), (0, .ref (X.2.2 c0)), (1, .ref (X.2.2 c1)), (3, .int (iz x3))]) C.1.1 C.1.2.1 dX5_sortByHeight_65 hl (k := 2) rfl (iz_add _ _) (by decide) rfl (fun ls hl => ?_)
  refine lv_goto (tgt := 2) C.1.1 C.1.2.1 dX5_sortByHeight_68 (by decide) ?_
  exact hk2 (x2 + 1) S64 H locs ls hf hw (lv_sub hl [1, 2, 0] rfl)
set_option maxRecDepth 100000 in
set_option maxHeartbeats 4000000 in
theorem w_X5_sortByHeight_12 {p : Program} (l : Launch) {e : Env} {s : State} {m : MethodId} {args : Array Value} {below : List Frame} {meth : Method} {c : Code} {X : XT} (hinj : XInj X nC) (hZ : ZOK (Zc X)) (C : CX p s m args meth c cX5_sortByHeight 4 RX5 none X nC (Zc X)) (out : S2) (c0 : Nat) (c1 : Nat) (i0 : Is5 c0) (i1 : Is0 c1) (k58 : Int → Int → S2 → Option (S2)) (hk58 : ∀ (x2 : Int) (x3 : Int) (S : S2) (H : Heap) (locs : List Loc) (ls : Array Slot), k58 x2 x3 S = some out → WH X shC nC s S H locs → lv_has ls 4 [(0, .ref (X.2.2 c0)), (1, .ref (X.2.2 c1)), (2, .int (iz x2)), (3, .int (iz x3))] → W p l e rmX5_sortByHeight s m args below meth c H locs 0 0 (QV X shC nC s args below out) (F0 m 58 ls [])) : ∀ (N : Nat), ∀ (x2 : Int) (x3 : Int) (S : S2) (H : Heap) (locs : List Loc) (ls : Array Slot), f_X5_sortByHeight_12 c0 c1 k58 N x2 x3 S = some out → WH X shC nC s S H locs → lv_has ls 4 [(0, .ref (X.2.2 c0)), (1, .ref (X.2.2 c1)), (2, .int (iz x2)), (3, .int (iz x3))] → W p l e rmX5_sortByHeight s m args below meth c H locs 0 0 (QV X shC nC s args below out) (F0 m 12 ls []) := by
  intro N
  induction N with
  | zero => intro x2 x3 S H locs ls hf hw hl; cases hf
  | succ N ih =>
    intro x2 x3 S H locs ls hf hw hl
    rw [f_X5_sortByHeight_12.eq_2] at hf
    refine lv_iload_n C.1.1 C.1.2.1 dX5_sortByHeight_12 rfl (lv_at hl 3 rfl) ?_
    refine r_if_le C (tgt := 58) dX5_sortByHeight_13 (by decide) hf (fun hf => ?_) (fun hf => ?_)
    · exact hk58 x2 x3 S H locs ls hf hw (lv_sub hl [0, 1, 2, 3] rfl)
    · refine lv_aload_n C.1.1 C.1.2.1 dX5_sortByHeight_16 rfl (lv_at hl 1 rfl) ?_
      refine r_getR (k := 0) C hw (is0_s i1) (is0_l i1) cO0 rfl (by decide) tw1_86 rfl dX5_sortByHeight_17 ?_
      refine lv_aload_n C.1.1 C.1.2.1 dX5_sortByHeight_20 rfl (lv_at hl 0 rfl) ?_
      refine r_getR (k := 2) C hw (is5_s i0) (is5_l i0) cO5 rfl (by decide) tw1_116 rfl dX5_sortByHeight_21 ?_
      refine lv_iload_n C.1.1 C.1.2.1 dX5_sortByHeight_24 rfl (lv_at hl 3 rfl) ?_
      refine r_iconst (v := 1) C dX5_sortByHeight_25 ?_
      refine r_isub C dX5_sortByHeight_26 ?_
      refine r_iald C hw (is5_s1 i0) (is5_l1 i0) (Nat.le_of_ble_eq_true rfl) dX5_sortByHeight_27 hf (fun v27 hf => ?_)
      refine r_iald C hw (is0_s1 i1) (is0_l1 i1) (Nat.le_of_ble_eq_true rfl) dX5_sortByHeight_28 hf (fun v28 hf => ?_)
      refine lv_aload_n C.1.1 C.1.2.1 dX5_sortByHeight_29 rfl (lv_at hl 1 rfl) ?_
      refine r_getR (k := 0) C hw (is0_s i1) (is0_l i1) cO0 rfl (by decide) tw1_86 rfl dX5_sortByHeight_30 ?_
      refine lv_iload_n C.1.1 C.1.2.1 dX5_sortByHeight_33 rfl (lv_at hl 2 rfl) ?_
      refine r_iald C hw (is0_s1 i1) (is0_l1 i1) (Nat.le_of_ble_eq_true rfl) dX5_sortByHeight_34 hf (fun v34 hf => ?_)
      refine r_icmp_ge C (tgt := 58) dX5_sortByHeight_35 (by decide) hf (fun hf => ?_) (fun hf => ?_)
      · exact hk58 x2 x3 S H locs ls hf hw (lv_sub hl [0, 1, 2, 3] rfl)
      · refine lv_aload_n C.1.1 C.1.2.1 dX5_sortByHeight_38 rfl (lv_at hl 0 rfl) ?_
        refine r_getR (k := 2) C hw (is5_s i0) (is5_l i0) cO5 rfl (by decide) tw1_116 rfl dX5_sortByHeight_39 ?_
        refine lv_iload_n C.1.1 C.1.2.1 dX5_sortByHeight_42 rfl (lv_at hl 3 rfl) ?_
        refine lv_aload_n C.1.1 C.1.2.1 dX5_sortByHeight_43 rfl (lv_at hl 0 rfl) ?_
        refine r_getR (k := 2) C hw (is5_s i0) (is5_l i0) cO5 rfl (by decide) tw1_116 rfl dX5_sortByHeight_44 ?_
        refine lv_iload_n C.1.1 C.1.2.1 dX5_sortByHeight_47 rfl (lv_at hl 3 rfl) ?_
        refine r_iconst (v := 1) C dX5_sortByHeight_48 ?_
        refine r_isub C dX5_sortByHeight_49 ?_
        refine r_iald C hw (is5_s1 i0) (is5_l1 i0) (Nat.le_of_ble_eq_true rfl) dX5_sortByHeight_50 hf (fun v50 hf => ?_)
        refine r_iast C hw (is5_s1 i0) (is5_l1 i0) (Nat.le_of_ble_eq_true rfl) dX5_sortByHeight_51 hf (fun S51 H locs hf hw => ?_)
        refine lv_iinc (v := iz (x3 + (-1))) (lv' := [(3, .int (iz (x3 + (-1)))), (0, .ref (X.2.2 c0)), (1, .ref (X.2.2 c1)), (2, .int (iz x2))]) C.1.1 C.1.2.1 dX5_sortByHeight_52 hl (k := 3) rfl (iz_add _ _) (by decide) rfl (fun ls hl => ?_)
        refine lv_goto (tgt := 12) C.1.1 C.1.2.1 dX5_sortByHeight_55 (by decide) ?_
        exact ih x2 (x3 + (-1)) S51 H locs ls hf hw (lv_sub hl [1, 2, 3, 0] rfl)
set_option maxRecDepth 100000 in
set_option maxHeartbeats 4000000 in
theorem w_X5_sortByHeight_2 {p : Program} (l : Launch) {e : Env} {s : State} {m : MethodId} {args : Array Value} {below : List Frame} {meth : Method} {c : Code} {X : XT} (hinj : XInj X nC) (hZ : ZOK (Zc X)) (C : CX p s m args meth c cX5_sortByHeight 4 RX5 none X nC (Zc X)) (out : S2) (c0 : Nat) (c1 : Nat) (i0 : Is5 c0) (i1 : Is0 c1) : ∀ (N : Nat), ∀ (x2 : Int) (S : S2) (H : Heap) (locs : List Loc) (ls : Array Slot), f_X5_sortByHeight_2 c0 c1 N x2 S = some out → WH X shC nC s S H locs → lv_has ls 4 [(0, .ref (X.2.2 c0)), (1, .ref (X.2.2 c1)), (2, .int (iz x2))] → W p l e rmX5_sortByHeight s m args below meth c H locs 0 0 (QV X shC nC s args below out) (F0 m 2 ls []) := by
  intro N
  induction N with
  | zero => intro x2 S H locs ls hf hw hl; cases hf
  | succ N ih =>
    intro x2 S H locs ls hf hw hl
    rw [f_X5_sortByHeight_2.eq_2] at hf
    refine lv_iload_n C.1.1 C.1.2.1 dX5_sortByHeight_2 rfl (lv_at hl 2 rfl) ?_
    refine lv_aload_n C.1.1 C.1.2.1 dX5_sortByHeight_3 rfl (lv_at hl 1 rfl) ?_
    refine r_getI (k := 1) C hw (is0_s i1) (is0_l i1) cO0 rfl (by decide) tw1_91 rfl dX5_sortByHeight_4 hf (fun v4 hf => ?_)
    refine r_icmp_ge C (tgt := 71) dX5_sortByHeight_7 (by decide) hf (fun hf => ?_) (fun hf => ?_)
    · exact r_retV C hw dX5_sortByHeight_71 hf
    · refine lv_iload_n C.1.1 C.1.2.1 dX5_sortByHeight_10 rfl (lv_at hl 2 rfl) ?_
      refine lv_istore_n (lv' := [(3, .int (iz x2)), (0, .ref (X.2.2 c0)), (1, .ref (X.2.2 c1)), (2, .int (iz x2))]) C.1.1 C.1.2.1 dX5_sortByHeight_11 rfl hl (by decide) rfl (fun ls hl => ?_)
      exact (w_X5_sortByHeight_12 l hinj hZ C out c0 c1 i0 i1 (f_X5_sortByHeight_58 c0 c1 (f_X5_sortByHeight_2 c0 c1 N) N) (w_X5_sortByHeight_58 l hinj hZ C out c0 c1 i0 i1 (f_X5_sortByHeight_2 c0 c1 N) ih N) N) x2 x2 S H locs ls hf hw (lv_sub hl [1, 2, 3, 0] rfl)
set_option maxRecDepth 100000 in
set_option maxHeartbeats 4000000 in
theorem c_X5_sortByHeight (l : Launch) (X : XT) (hinj : XInj X nC) (hZ : ZOK (Zc X)) (N : Nat) (S : S2) (c0 : Nat) (c1 : Nat) (i0 : Is5 c0) (i1 : Is0 c1) (out : S2) (hf : f_X5_sortByHeight N S c0 c1 = some out) : MV l X shC nC (Zc X) yX5_sortByHeight cX5_sortByHeight 4 none rmX5_sortByHeight [.ref (X.2.2 c0), .ref (X.2.2 c1)] S out := by
  refine met_V (own := RX5) (by decide) rfl hinj hZ (Nat.le_of_ble_eq_true rfl) (fun p e s m args below meth c C ls H locs hw hl => ?_)
  unfold f_X5_sortByHeight at hf
  have hl : lv_has ls 4 [(0, .ref (X.2.2 c0)), (1, .ref (X.2.2 c1))] := hl
  refine r_iconst (v := 0) C dX5_sortByHeight_0 ?_
  refine lv_istore_n (lv' := [(2, .int (iz 0)), (0, .ref (X.2.2 c0)), (1, .ref (X.2.2 c1))]) C.1.1 C.1.2.1 dX5_sortByHeight_1 rfl hl (by decide) rfl (fun ls hl => ?_)
  exact (w_X5_sortByHeight_2 l hinj hZ C out c0 c1 i0 i1 N) 0 S H locs ls hf hw (lv_sub hl [1, 2, 0] rfl)
def f_X5_begin (N : Nat) (S : S2) (c0 : Nat) (a1 : Int) (a2 : Int) : Option (S2) := gI S c0 0 fun v5 => sI S (c0 + 5) 48 v5 a1 fun S9 => gI S9 c0 0 fun v15 => sI S9 (c0 + 6) 48 v15 a2 fun S19 => gI S19 c0 0 fun v25 => sI S19 (c0 + 7) 48 v25 (-1) fun S29 => gI S29 c0 0 fun v35 => sI S29 (c0 + 9) 48 v35 (-1) fun S39 => gI S39 c0 0 fun v45 => sI S39 (c0 + 3) 48 v45 a1 fun S49 => gI S49 c0 0 fun v55 => sI S49 (c0 + 4) 48 v55 a1 fun S59 => gI S59 c0 0 fun v66 => sI S59 (c0 + 2) 48 a1 v66 fun S69 => gI S69 c0 0 fun v72 => uI S69 c0 0 (v72 + 1) fun S77 => rV S77
abbrev rmX5_begin : Room := { frames := 0, cells := 0, slots := 0, locals := 0 }
theorem hd_X5_begin : yX5_begin.cls ≠ "java/lang/invoke/MethodHandle" ∧ yX5_begin.cls ≠ "java/lang/invoke/VarHandle" ∧ (parseMethodDescriptor yX5_begin.desc).map (fun d => d.parameters.length) = some 2 := by decide +kernel
set_option maxRecDepth 100000 in
set_option maxHeartbeats 4000000 in
theorem c_X5_begin (l : Launch) (X : XT) (hinj : XInj X nC) (hZ : ZOK (Zc X)) (N : Nat) (S : S2) (c0 : Nat) (a1 : Int) (a2 : Int) (i0 : Is5 c0) (out : S2) (hf : f_X5_begin N S c0 a1 a2 = some out) : MV l X shC nC (Zc X) yX5_begin cX5_begin 3 none rmX5_begin [.ref (X.2.2 c0), .int (iz a1), .int (iz a2)] S out := by
  refine met_V (own := RX5) (by decide) rfl hinj hZ (Nat.le_of_ble_eq_true rfl) (fun p e s m args below meth c C ls H locs hw hl => ?_)
  unfold f_X5_begin at hf
  have hl : lv_has ls 3 [(0, .ref (X.2.2 c0)), (1, .int (iz a1)), (2, .int (iz a2))] := hl
  refine lv_aload_n C.1.1 C.1.2.1 dX5_begin_0 rfl (lv_at hl 0 rfl) ?_
  refine r_getR (k := 6) C hw (is5_s i0) (is5_l i0) cO5 rfl (by decide) tw1_120 rfl dX5_begin_1 ?_
  refine lv_aload_n C.1.1 C.1.2.1 dX5_begin_4 rfl (lv_at hl 0 rfl) ?_
  refine r_getI (k := 0) C hw (is5_s i0) (is5_l i0) cO5 rfl (by decide) tw1_111 rfl dX5_begin_5 hf (fun v5 hf => ?_)
  refine lv_iload_n C.1.1 C.1.2.1 dX5_begin_8 rfl (lv_at hl 1 rfl) ?_
  refine r_iast C hw (is5_s5 i0) (is5_l5 i0) (Nat.le_of_ble_eq_true rfl) dX5_begin_9 hf (fun S9 H locs hf hw => ?_)
  refine lv_aload_n C.1.1 C.1.2.1 dX5_begin_10 rfl (lv_at hl 0 rfl) ?_
  refine r_getR (k := 7) C hw (is5_s i0) (is5_l i0) cO5 rfl (by decide) tw1_121 rfl dX5_begin_11 ?_
  refine lv_aload_n C.1.1 C.1.2.1 dX5_begin_14 rfl (lv_at hl 0 rfl) ?_
  refine r_getI (k := 0) C hw (is5_s i0) (is5_l i0) cO5 rfl (by decide) tw1_111 rfl dX5_begin_15 hf (fun v15 hf => ?_)
  refine lv_iload_n C.1.1 C.1.2.1 dX5_begin_18 rfl (lv_at hl 2 rfl) ?_
  refine r_iast C hw (is5_s6 i0) (is5_l6 i0) (Nat.le_of_ble_eq_true rfl) dX5_begin_19 hf (fun S19 H locs hf hw => ?_)
  refine lv_aload_n C.1.1 C.1.2.1 dX5_begin_20 rfl (lv_at hl 0 rfl) ?_
  refine r_getR (k := 8) C hw (is5_s i0) (is5_l i0) cO5 rfl (by decide) tw1_122 rfl dX5_begin_21 ?_
  refine lv_aload_n C.1.1 C.1.2.1 dX5_begin_24 rfl (lv_at hl 0 rfl) ?_
  refine r_getI (k := 0) C hw (is5_s i0) (is5_l i0) cO5 rfl (by decide) tw1_111 rfl dX5_begin_25 hf (fun v25 hf => ?_)
  refine r_iconst (v := (-1)) C dX5_begin_28 ?_
  refine r_iast C hw (is5_s7 i0) (is5_l7 i0) (Nat.le_of_ble_eq_true rfl) dX5_begin_29 hf (fun S29 H locs hf hw => ?_)
  refine lv_aload_n C.1.1 C.1.2.1 dX5_begin_30 rfl (lv_at hl 0 rfl) ?_
  refine r_getR (k := 10) C hw (is5_s i0) (is5_l i0) cO5 rfl (by decide) tw1_124 rfl dX5_begin_31 ?_
  refine lv_aload_n C.1.1 C.1.2.1 dX5_begin_34 rfl (lv_at hl 0 rfl) ?_
  refine r_getI (k := 0) C hw (is5_s i0) (is5_l i0) cO5 rfl (by decide) tw1_111 rfl dX5_begin_35 hf (fun v35 hf => ?_)
  refine r_iconst (v := (-1)) C dX5_begin_38 ?_
  refine r_iast C hw (is5_s9 i0) (is5_l9 i0) (Nat.le_of_ble_eq_true rfl) dX5_begin_39 hf (fun S39 H locs hf hw => ?_)
  refine lv_aload_n C.1.1 C.1.2.1 dX5_begin_40 rfl (lv_at hl 0 rfl) ?_
  refine r_getR (k := 4) C hw (is5_s i0) (is5_l i0) cO5 rfl (by decide) tw1_118 rfl dX5_begin_41 ?_
  refine lv_aload_n C.1.1 C.1.2.1 dX5_begin_44 rfl (lv_at hl 0 rfl) ?_
  refine r_getI (k := 0) C hw (is5_s i0) (is5_l i0) cO5 rfl (by decide) tw1_111 rfl dX5_begin_45 hf (fun v45 hf => ?_)
  refine lv_iload_n C.1.1 C.1.2.1 dX5_begin_48 rfl (lv_at hl 1 rfl) ?_
  refine r_iast C hw (is5_s3 i0) (is5_l3 i0) (Nat.le_of_ble_eq_true rfl) dX5_begin_49 hf (fun S49 H locs hf hw => ?_)
  refine lv_aload_n C.1.1 C.1.2.1 dX5_begin_50 rfl (lv_at hl 0 rfl) ?_
  refine r_getR (k := 5) C hw (is5_s i0) (is5_l i0) cO5 rfl (by decide) tw1_119 rfl dX5_begin_51 ?_
  refine lv_aload_n C.1.1 C.1.2.1 dX5_begin_54 rfl (lv_at hl 0 rfl) ?_
  refine r_getI (k := 0) C hw (is5_s i0) (is5_l i0) cO5 rfl (by decide) tw1_111 rfl dX5_begin_55 hf (fun v55 hf => ?_)
  refine lv_iload_n C.1.1 C.1.2.1 dX5_begin_58 rfl (lv_at hl 1 rfl) ?_
  refine r_iast C hw (is5_s4 i0) (is5_l4 i0) (Nat.le_of_ble_eq_true rfl) dX5_begin_59 hf (fun S59 H locs hf hw => ?_)
  refine lv_aload_n C.1.1 C.1.2.1 dX5_begin_60 rfl (lv_at hl 0 rfl) ?_
  refine r_getR (k := 3) C hw (is5_s i0) (is5_l i0) cO5 rfl (by decide) tw1_117 rfl dX5_begin_61 ?_
  refine lv_iload_n C.1.1 C.1.2.1 dX5_begin_64 rfl (lv_at hl 1 rfl) ?_
  refine lv_aload_n C.1.1 C.1.2.1 dX5_begin_65 rfl (lv_at hl 0 rfl) ?_
  refine r_getI (k := 0) C hw (is5_s i0) (is5_l i0) cO5 rfl (by decide) tw1_111 rfl dX5_begin_66 hf (fun v66 hf => ?_)
  refine r_iast C hw (is5_s2 i0) (is5_l2 i0) (Nat.le_of_ble_eq_true rfl) dX5_begin_69 hf (fun S69 H locs hf hw => ?_)
  refine lv_aload_n C.1.1 C.1.2.1 dX5_begin_70 rfl (lv_at hl 0 rfl) ?_
  refine lv_dup C.1.1 C.1.2.1 dX5_begin_71 rfl ?_
  refine r_getI (k := 0) C hw (is5_s i0) (is5_l i0) cO5 rfl (by decide) tw1_111 rfl dX5_begin_72 hf (fun v72 hf => ?_)
  refine r_iconst (v := 1) C dX5_begin_75 ?_
  refine r_iadd C dX5_begin_76 ?_
  refine r_putI (k := 0) C hw (is5_s i0) (is5_l i0) cO5 rfl (by decide) tw1_111 rfl rfl rfl dX5_begin_77 hf (fun S77 H locs hf hw => ?_)
  exact r_retV C hw dX5_begin_80 hf
def f_X5_join (N : Nat) (S : S2) (c0 : Nat) (a1 : Int) (a2 : Int) (a3 : Int) (a4 : Int) : Option (S2) := mnI a1 a2 fun v2 => mxI a1 a2 fun v9 => sI S (c0 + 7) 48 v9 a3 fun S21 => sI S21 (c0 + 8) 48 v9 a4 fun S30 => sI S30 (c0 + 9) 48 v9 v2 fun S39 => aI S39 (c0 + 3) 48 a1 fun v51 => sI S39 (c0 + 3) 48 v2 v51 fun S52 => aI S52 (c0 + 4) 48 a2 fun v64 => sI S52 (c0 + 4) 48 v2 v64 fun S65 => sI S65 (c0 + 2) 48 a3 v2 fun S73 => aI S73 (c0 + 3) 48 v2 fun v84 => sI S73 (c0 + 2) 48 v84 v2 fun S87 => aI S87 (c0 + 4) 48 v2 fun v98 => sI S87 (c0 + 2) 48 v98 v2 fun S101 => rV S101
abbrev rmX5_join : Room := { frames := 1, cells := 0, slots := 0, locals := 21 }
theorem hd_X5_join : yX5_join.cls ≠ "java/lang/invoke/MethodHandle" ∧ yX5_join.cls ≠ "java/lang/invoke/VarHandle" ∧ (parseMethodDescriptor yX5_join.desc).map (fun d => d.parameters.length) = some 4 := by decide +kernel
set_option maxRecDepth 100000 in
set_option maxHeartbeats 4000000 in
theorem c_X5_join (l : Launch) (X : XT) (hinj : XInj X nC) (hZ : ZOK (Zc X)) (N : Nat) (S : S2) (c0 : Nat) (a1 : Int) (a2 : Int) (a3 : Int) (a4 : Int) (i0 : Is5 c0) (out : S2) (hf : f_X5_join N S c0 a1 a2 a3 a4 = some out) : MV l X shC nC (Zc X) yX5_join cX5_join 7 none rmX5_join [.ref (X.2.2 c0), .int (iz a1), .int (iz a2), .int (iz a3), .int (iz a4)] S out := by
  refine met_V (own := RX5) (by decide) rfl hinj hZ (Nat.le_of_ble_eq_true rfl) (fun p e s m args below meth c C ls H locs hw hl => ?_)
  unfold f_X5_join at hf
  have hl : lv_has ls 7 [(0, .ref (X.2.2 c0)), (1, .int (iz a1)), (2, .int (iz a2)), (3, .int (iz a3)), (4, .int (iz a4))] := hl
  refine lv_iload_n C.1.1 C.1.2.1 dX5_join_0 rfl (lv_at hl 1 rfl) ?_
  refine lv_iload_n C.1.1 C.1.2.1 dX5_join_1 rfl (lv_at hl 2 rfl) ?_
  refine r_min C tw3_82 tw3_83 tw1_18 tw3_84 hl.1 (Nat.le_of_ble_eq_true rfl) (Nat.le_of_ble_eq_true rfl) dX5_join_2 hf (fun v2 hf => ?_)
  refine lv_istore (lv' := [(5, .int (iz v2)), (0, .ref (X.2.2 c0)), (1, .int (iz a1)), (2, .int (iz a2)), (3, .int (iz a3)), (4, .int (iz a4))]) C.1.1 C.1.2.1 dX5_join_5 hl (by decide) rfl (fun ls hl => ?_)
  refine lv_iload_n C.1.1 C.1.2.1 dX5_join_7 rfl (lv_at hl 2 rfl) ?_
  refine lv_iload_n C.1.1 C.1.2.1 dX5_join_8 rfl (lv_at hl 3 rfl) ?_
  refine r_max C tw3_85 tw3_86 tw1_18 tw3_87 hl.1 (Nat.le_of_ble_eq_true rfl) (Nat.le_of_ble_eq_true rfl) dX5_join_9 hf (fun v9 hf => ?_)
  refine lv_istore (lv' := [(6, .int (iz v9)), (5, .int (iz v2)), (0, .ref (X.2.2 c0)), (1, .int (iz a1)), (2, .int (iz a2)), (3, .int (iz a3)), (4, .int (iz a4))]) C.1.1 C.1.2.1 dX5_join_12 hl (by decide) rfl (fun ls hl => ?_)
  refine lv_aload_n C.1.1 C.1.2.1 dX5_join_14 rfl (lv_at hl 2 rfl) ?_
  refine r_getR (k := 8) C hw (is5_s i0) (is5_l i0) cO5 rfl (by decide) tw1_122 rfl dX5_join_15 ?_
  refine lv_iload C.1.1 C.1.2.1 dX5_join_18 (lv_at hl 0 rfl) ?_
  refine lv_iload_n C.1.1 C.1.2.1 dX5_join_20 rfl (lv_at hl 5 rfl) ?_
  refine r_iast C hw (is5_s7 i0) (is5_l7 i0) (Nat.le_of_ble_eq_true rfl) dX5_join_21 hf (fun S21 H locs hf hw => ?_)
  refine lv_aload_n C.1.1 C.1.2.1 dX5_join_22 rfl (lv_at hl 2 rfl) ?_
  refine r_getR (k := 9) C hw (is5_s i0) (is5_l i0) cO5 rfl (by decide) tw1_123 rfl dX5_join_23 ?_
  refine lv_iload C.1.1 C.1.2.1 dX5_join_26 (lv_at hl 0 rfl) ?_
  refine lv_iload C.1.1 C.1.2.1 dX5_join_28 (lv_at hl 6 rfl) ?_
  refine r_iast C hw (is5_s8 i0) (is5_l8 i0) (Nat.le_of_ble_eq_true rfl) dX5_join_30 hf (fun S30 H locs hf hw => ?_)
  refine lv_aload_n C.1.1 C.1.2.1 dX5_join_31 rfl (lv_at hl 2 rfl) ?_
  refine r_getR (k := 10) C hw (is5_s i0) (is5_l i0) cO5 rfl (by decide) tw1_124 rfl dX5_join_32 ?_
  refine lv_iload C.1.1 C.1.2.1 dX5_join_35 (lv_at hl 0 rfl) ?_
  refine lv_iload C.1.1 C.1.2.1 dX5_join_37 (lv_at hl 1 rfl) ?_
  refine r_iast C hw (is5_s9 i0) (is5_l9 i0) (Nat.le_of_ble_eq_true rfl) dX5_join_39 hf (fun S39 H locs hf hw => ?_)
  refine lv_aload_n C.1.1 C.1.2.1 dX5_join_40 rfl (lv_at hl 2 rfl) ?_
  refine r_getR (k := 4) C hw (is5_s i0) (is5_l i0) cO5 rfl (by decide) tw1_118 rfl dX5_join_41 ?_
  refine lv_iload C.1.1 C.1.2.1 dX5_join_44 (lv_at hl 1 rfl) ?_
  refine lv_aload_n C.1.1 C.1.2.1 dX5_join_46 rfl (lv_at hl 2 rfl) ?_
  refine r_getR (k := 4) C hw (is5_s i0) (is5_l i0) cO5 rfl (by decide) tw1_118 rfl dX5_join_47 ?_
  refine lv_iload_n C.1.1 C.1.2.1 dX5_join_50 rfl (lv_at hl 3 rfl) ?_
  refine r_iald C hw (is5_s3 i0) (is5_l3 i0) (Nat.le_of_ble_eq_true rfl) dX5_join_51 hf (fun v51 hf => ?_)
  refine r_iast C hw (is5_s3 i0) (is5_l3 i0) (Nat.le_of_ble_eq_true rfl) dX5_join_52 hf (fun S52 H locs hf hw => ?_)
  refine lv_aload_n C.1.1 C.1.2.1 dX5_join_53 rfl (lv_at hl 2 rfl) ?_
  refine r_getR (k := 5) C hw (is5_s i0) (is5_l i0) cO5 rfl (by decide) tw1_119 rfl dX5_join_54 ?_
  refine lv_iload C.1.1 C.1.2.1 dX5_join_57 (lv_at hl 1 rfl) ?_
  refine lv_aload_n C.1.1 C.1.2.1 dX5_join_59 rfl (lv_at hl 2 rfl) ?_
  refine r_getR (k := 5) C hw (is5_s i0) (is5_l i0) cO5 rfl (by decide) tw1_119 rfl dX5_join_60 ?_
  refine lv_iload_n C.1.1 C.1.2.1 dX5_join_63 rfl (lv_at hl 4 rfl) ?_
  refine r_iald C hw (is5_s4 i0) (is5_l4 i0) (Nat.le_of_ble_eq_true rfl) dX5_join_64 hf (fun v64 hf => ?_)
  refine r_iast C hw (is5_s4 i0) (is5_l4 i0) (Nat.le_of_ble_eq_true rfl) dX5_join_65 hf (fun S65 H locs hf hw => ?_)
  refine lv_aload_n C.1.1 C.1.2.1 dX5_join_66 rfl (lv_at hl 2 rfl) ?_
  refine r_getR (k := 3) C hw (is5_s i0) (is5_l i0) cO5 rfl (by decide) tw1_117 rfl dX5_join_67 ?_
  refine lv_iload_n C.1.1 C.1.2.1 dX5_join_70 rfl (lv_at hl 5 rfl) ?_
  refine lv_iload C.1.1 C.1.2.1 dX5_join_71 (lv_at hl 1 rfl) ?_
  refine r_iast C hw (is5_s2 i0) (is5_l2 i0) (Nat.le_of_ble_eq_true rfl) dX5_join_73 hf (fun S73 H locs hf hw => ?_)
  refine lv_aload_n C.1.1 C.1.2.1 dX5_join_74 rfl (lv_at hl 2 rfl) ?_
  refine r_getR (k := 3) C hw (is5_s i0) (is5_l i0) cO5 rfl (by decide) tw1_117 rfl dX5_join_75 ?_
  refine lv_aload_n C.1.1 C.1.2.1 dX5_join_78 rfl (lv_at hl 2 rfl) ?_
  refine r_getR (k := 4) C hw (is5_s i0) (is5_l i0) cO5 rfl (by decide) tw1_118 rfl dX5_join_79 ?_
  refine lv_iload C.1.1 C.1.2.1 dX5_join_82 (lv_at hl 1 rfl) ?_
  refine r_iald C hw (is5_s3 i0) (is5_l3 i0) (Nat.le_of_ble_eq_true rfl) dX5_join_84 hf (fun v84 hf => ?_)
  refine lv_iload C.1.1 C.1.2.1 dX5_join_85 (lv_at hl 1 rfl) ?_
  refine r_iast C hw (is5_s2 i0) (is5_l2 i0) (Nat.le_of_ble_eq_true rfl) dX5_join_87 hf (fun S87 H locs hf hw => ?_)
  refine lv_aload_n C.1.1 C.1.2.1 dX5_join_88 rfl (lv_at hl 2 rfl) ?_
  refine r_getR (k := 3) C hw (is5_s i0) (is5_l i0) cO5 rfl (by decide) tw1_117 rfl dX5_join_89 ?_
  refine lv_aload_n C.1.1 C.1.2.1 dX5_join_92 rfl (lv_at hl 2 rfl) ?_
  refine r_getR (k := 5) C hw (is5_s i0) (is5_l i0) cO5 rfl (by decide) tw1_119 rfl dX5_join_93 ?_
  refine lv_iload C.1.1 C.1.2.1 dX5_join_96 (lv_at hl 1 rfl) ?_
  refine r_iald C hw (is5_s4 i0) (is5_l4 i0) (Nat.le_of_ble_eq_true rfl) dX5_join_98 hf (fun v98 hf => ?_)
  refine lv_iload C.1.1 C.1.2.1 dX5_join_99 (lv_at hl 1 rfl) ?_
  refine r_iast C hw (is5_s2 i0) (is5_l2 i0) (Nat.le_of_ble_eq_true rfl) dX5_join_101 hf (fun S101 H locs hf hw => ?_)
  exact r_retV C hw dX5_join_102 hf
def f_X5_tellGenerations_50 (c0 : Nat) (k9 : Int → S2 → Option (S2)) (N : Nat) (x1 : Int) (y0 : Int) (y1 : Int) (S : S2) : Option (S2) := sI S (c0 + 10) 48 y1 y0 fun S50 => k9 (x1 + 1) S50
def f_X5_tellGenerations_49 (c0 : Nat) (k9 : Int → S2 → Option (S2)) (N : Nat) (x1 : Int) (y0 : Int) (S : S2) : Option (S2) := (f_X5_tellGenerations_50 c0 k9 N) x1 1 y0 S
def f_X5_tellGenerations_9 (c0 : Nat) : Nat → Int → S2 → Option (S2)
  | 0, _, _ => none
  | N + 1, x1, S => gI S c0 0 fun v11 => cI x1 v11 (if v11 ≤ x1 then rV S else aI S (c0 + 9) 48 x1 fun v22 => cI v22 0 (if v22 < 0 then (f_X5_tellGenerations_49 c0 (f_X5_tellGenerations_9 c0 N) N) x1 x1 S else cI v22 x1 (if x1 ≤ v22 then (f_X5_tellGenerations_49 c0 (f_X5_tellGenerations_9 c0 N) N) x1 x1 S else aI S (c0 + 10) 48 v22 fun v43 => (f_X5_tellGenerations_50 c0 (f_X5_tellGenerations_9 c0 N) N) x1 (v43 + 1) x1 S)))
def f_X5_tellGenerations (N : Nat) (S : S2) (c0 : Nat) : Option (S2) := sI S (c0 + 10) 48 0 0 fun S6 => (f_X5_tellGenerations_9 c0 N) 1 S6
abbrev rmX5_tellGenerations : Room := { frames := 0, cells := 0, slots := 0, locals := 0 }
theorem hd_X5_tellGenerations : yX5_tellGenerations.cls ≠ "java/lang/invoke/MethodHandle" ∧ yX5_tellGenerations.cls ≠ "java/lang/invoke/VarHandle" ∧ (parseMethodDescriptor yX5_tellGenerations.desc).map (fun d => d.parameters.length) = some 0 := by decide +kernel
set_option maxRecDepth 100000 in
set_option maxHeartbeats 4000000 in
theorem w_X5_tellGenerations_50 {p : Program} (l : Launch) {e : Env} {s : State} {m : MethodId} {args : Array Value} {below : List Frame} {meth : Method} {c : Code} {X : XT} (hinj : XInj X nC) (hZ : ZOK (Zc X)) (C : CX p s m args meth c cX5_tellGenerations 3 RX5 none X nC (Zc X)) (out : S2) (c0 : Nat) (i0 : Is5 c0) (k9 : Int → S2 → Option (S2)) (hk9 : ∀ (x1 : Int) (S : S2) (H : Heap) (locs : List Loc) (ls : Array Slot), k9 x1 S = some out → WH X shC nC s S H locs → lv_has ls 3 [(0, .ref (X.2.2 c0)), (1, .int (iz x1))] → W p l e rmX5_tellGenerations s m args below meth c H locs 0 0 (QV X shC nC s args below out) (F0 m 9 ls [])) : ∀ (N : Nat), ∀ (x1 : Int) (y0 : Int) (y1 : Int) (S : S2) (H : Heap) (locs : List Loc) (ls : Array Slot), f_X5_tellGenerations_50 c0 k9 N x1 y0 y1 S = some out → WH X shC nC s S H locs → lv_has ls 3 [(0, .ref (X.2.2 c0)), (1, .int (iz x1))] → W p l e rmX5_tellGenerations s m args below meth c H locs 0 0 (QV X shC nC s args below out) (F0 m 50 ls [.int (iz y0), .int (iz y1), .ref (X.2.2 (c0 + 10))]) := by
  intro N x1 y0 y1 S H locs ls hf hw hl
  unfold f_X5_tellGenerations_50 at hf
  refine r_iast C hw (is5_s10 i0) (is5_l10 i0) (Nat.le_of_ble_eq_true rfl) dX5_tellGenerations_50 hf (fun S50 H locs hf hw => ?_)
  refine lv_iinc (v := iz (x1 + 1)) (lv' := [(1, .int (iz (x1 + 1))), (0, .ref (X.2.2 c0))]) C.1.1 C.1.2.1 dX5_tellGenerations_51 hl (k := 1) rfl (iz_add _ _) (by decide) rfl (fun ls hl => ?_)
  refine lv_goto (tgt := 9) C.1.1 C.1.2.1 dX5_tellGenerations_54 (by decide) ?_
  exact hk9 (x1 + 1) S50 H locs ls hf hw (lv_sub hl [1, 0] rfl)
set_option maxRecDepth 100000 in
set_option maxHeartbeats 4000000 in
theorem w_X5_tellGenerations_49 {p : Program} (l : Launch) {e : Env} {s : State} {m : MethodId} {args : Array Value} {below : List Frame} {meth : Method} {c : Code} {X : XT} (hinj : XInj X nC) (hZ : ZOK (Zc X)) (C : CX p s m args meth c cX5_tellGenerations 3 RX5 none X nC (Zc X)) (out : S2) (c0 : Nat) (i0 : Is5 c0) (k9 : Int → S2 → Option (S2)) (hk9 : ∀ (x1 : Int) (S : S2) (H : Heap) (locs : List Loc) (ls : Array Slot), k9 x1 S = some out → WH X shC nC s S H locs → lv_has ls 3 [(0, .ref (X.2.2 c0)), (1, .int (iz x1))] → W p l e rmX5_tellGenerations s m args below meth c H locs 0 0 (QV X shC nC s args below out) (F0 m 9 ls [])) : ∀ (N : Nat), ∀ (x1 : Int) (y0 : Int) (S : S2) (H : Heap) (locs : List Loc) (ls : Array Slot), f_X5_tellGenerations_49 c0 k9 N x1 y0 S = some out → WH X shC nC s S H locs → lv_has ls 3 [(0, .ref (X.2.2 c0)), (1, .int (iz x1))] → W p l e rmX5_tellGenerations s m args below meth c H locs 0 0 (QV X shC nC s args below out) (F0 m 49 ls [.int (iz y0), .ref (X.2.2 (c0 + 10))]) := by
  intro N x1 y0 S H locs ls hf hw hl
  unfold f_X5_tellGenerations_49 at hf
  refine r_iconst (v := 1) C dX5_tellGenerations_49 ?_
  exact (w_X5_tellGenerations_50 l hinj hZ C out c0 i0 k9 hk9 N) x1 1 y0 S H locs ls hf hw (lv_sub hl [0, 1] rfl)
set_option maxRecDepth 100000 in
set_option maxHeartbeats 4000000 in
theorem w_X5_tellGenerations_9 {p : Program} (l : Launch) {e : Env} {s : State} {m : MethodId} {args : Array Value} {below : List Frame} {meth : Method} {c : Code} {X : XT} (hinj : XInj X nC) (hZ : ZOK (Zc X)) (C : CX p s m args meth c cX5_tellGenerations 3 RX5 none X nC (Zc X)) (out : S2) (c0 : Nat) (i0 : Is5 c0) : ∀ (N : Nat), ∀ (x1 : Int) (S : S2) (H : Heap) (locs : List Loc) (ls : Array Slot), f_X5_tellGenerations_9 c0 N x1 S = some out → WH X shC nC s S H locs → lv_has ls 3 [(0, .ref (X.2.2 c0)), (1, .int (iz x1))] → W p l e rmX5_tellGenerations s m args below meth c H locs 0 0 (QV X shC nC s args below out) (F0 m 9 ls []) := by
  intro N
  induction N with
  | zero => intro x1 S H locs ls hf hw hl; cases hf
  | succ N ih =>
    intro x1 S H locs ls hf hw hl
    rw [f_X5_tellGenerations_9.eq_2] at hf
    refine lv_iload_n C.1.1 C.1.2.1 dX5_tellGenerations_9 rfl (lv_at hl 1 rfl) ?_
    refine lv_aload_n C.1.1 C.1.2.1 dX5_tellGenerations_10 rfl (lv_at hl 0 rfl) ?_
    refine r_getI (k := 0) C hw (is5_s i0) (is5_l i0) cO5 rfl (by decide) tw1_111 rfl dX5_tellGenerations_11 hf (fun v11 hf => ?_)
    refine r_icmp_ge C (tgt := 57) dX5_tellGenerations_14 (by decide) hf (fun hf => ?_) (fun hf => ?_)
    · exact r_retV C hw dX5_tellGenerations_57 hf
    · refine lv_aload_n C.1.1 C.1.2.1 dX5_tellGenerations_17 rfl (lv_at hl 0 rfl) ?_
      refine r_getR (k := 10) C hw (is5_s i0) (is5_l i0) cO5 rfl (by decide) tw1_124 rfl dX5_tellGenerations_18 ?_
      refine lv_iload_n C.1.1 C.1.2.1 dX5_tellGenerations_21 rfl (lv_at hl 1 rfl) ?_
      refine r_iald C hw (is5_s9 i0) (is5_l9 i0) (Nat.le_of_ble_eq_true rfl) dX5_tellGenerations_22 hf (fun v22 hf => ?_)
      refine lv_istore_n (lv' := [(2, .int (iz v22)), (0, .ref (X.2.2 c0)), (1, .int (iz x1))]) C.1.1 C.1.2.1 dX5_tellGenerations_23 rfl hl (by decide) rfl (fun ls hl => ?_)
      refine lv_aload_n C.1.1 C.1.2.1 dX5_tellGenerations_24 rfl (lv_at hl 1 rfl) ?_
      refine r_getR (k := 11) C hw (is5_s i0) (is5_l i0) cO5 rfl (by decide) tw1_125 rfl dX5_tellGenerations_25 ?_
      refine lv_iload_n C.1.1 C.1.2.1 dX5_tellGenerations_28 rfl (lv_at hl 2 rfl) ?_
      refine lv_iload_n C.1.1 C.1.2.1 dX5_tellGenerations_29 rfl (lv_at hl 0 rfl) ?_
      refine r_if_lt C (tgt := 49) dX5_tellGenerations_30 (by decide) hf (fun hf => ?_) (fun hf => ?_)
      · exact (w_X5_tellGenerations_49 l hinj hZ C out c0 i0 (f_X5_tellGenerations_9 c0 N) ih N) x1 x1 S H locs ls hf hw (lv_sub hl [1, 2] rfl)
      · refine lv_iload_n C.1.1 C.1.2.1 dX5_tellGenerations_33 rfl (lv_at hl 0 rfl) ?_
        refine lv_iload_n C.1.1 C.1.2.1 dX5_tellGenerations_34 rfl (lv_at hl 2 rfl) ?_
        refine r_icmp_ge C (tgt := 49) dX5_tellGenerations_35 (by decide) hf (fun hf => ?_) (fun hf => ?_)
        · exact (w_X5_tellGenerations_49 l hinj hZ C out c0 i0 (f_X5_tellGenerations_9 c0 N) ih N) x1 x1 S H locs ls hf hw (lv_sub hl [1, 2] rfl)
        · refine lv_aload_n C.1.1 C.1.2.1 dX5_tellGenerations_38 rfl (lv_at hl 1 rfl) ?_
          refine r_getR (k := 11) C hw (is5_s i0) (is5_l i0) cO5 rfl (by decide) tw1_125 rfl dX5_tellGenerations_39 ?_
          refine lv_iload_n C.1.1 C.1.2.1 dX5_tellGenerations_42 rfl (lv_at hl 0 rfl) ?_
          refine r_iald C hw (is5_s10 i0) (is5_l10 i0) (Nat.le_of_ble_eq_true rfl) dX5_tellGenerations_43 hf (fun v43 hf => ?_)
          refine r_iconst (v := 1) C dX5_tellGenerations_44 ?_
          refine r_iadd C dX5_tellGenerations_45 ?_
          refine lv_goto (tgt := 50) C.1.1 C.1.2.1 dX5_tellGenerations_46 (by decide) ?_
          exact (w_X5_tellGenerations_50 l hinj hZ C out c0 i0 (f_X5_tellGenerations_9 c0 N) ih N) x1 (v43 + 1) x1 S H locs ls hf hw (lv_sub hl [1, 2] rfl)
set_option maxRecDepth 100000 in
set_option maxHeartbeats 4000000 in
theorem c_X5_tellGenerations (l : Launch) (X : XT) (hinj : XInj X nC) (hZ : ZOK (Zc X)) (N : Nat) (S : S2) (c0 : Nat) (i0 : Is5 c0) (out : S2) (hf : f_X5_tellGenerations N S c0 = some out) : MV l X shC nC (Zc X) yX5_tellGenerations cX5_tellGenerations 3 none rmX5_tellGenerations [.ref (X.2.2 c0)] S out := by
  refine met_V (own := RX5) (by decide) rfl hinj hZ (Nat.le_of_ble_eq_true rfl) (fun p e s m args below meth c C ls H locs hw hl => ?_)
  unfold f_X5_tellGenerations at hf
  have hl : lv_has ls 3 [(0, .ref (X.2.2 c0))] := hl
  refine lv_aload_n C.1.1 C.1.2.1 dX5_tellGenerations_0 rfl (lv_at hl 0 rfl) ?_
  refine r_getR (k := 11) C hw (is5_s i0) (is5_l i0) cO5 rfl (by decide) tw1_125 rfl dX5_tellGenerations_1 ?_
  refine r_iconst (v := 0) C dX5_tellGenerations_4 ?_
  refine r_iconst (v := 0) C dX5_tellGenerations_5 ?_
  refine r_iast C hw (is5_s10 i0) (is5_l10 i0) (Nat.le_of_ble_eq_true rfl) dX5_tellGenerations_6 hf (fun S6 H locs hf hw => ?_)
  refine r_iconst (v := 1) C dX5_tellGenerations_7 ?_
  refine lv_istore_n (lv' := [(1, .int (iz 1)), (0, .ref (X.2.2 c0))]) C.1.1 C.1.2.1 dX5_tellGenerations_8 rfl hl (by decide) rfl (fun ls hl => ?_)
  exact (w_X5_tellGenerations_9 l hinj hZ C out c0 i0 N) 1 S6 H locs ls hf hw (lv_sub hl [1, 0] rfl)
def f_X5_isAhead_51 (c0 : Nat) (N : Nat) (S : S2) : Option (Int × S2) := rZ 1 S
def f_X5_isAhead (N : Nat) (S : S2) (c0 : Nat) (a1 : Int) (a2 : Int) : Option (Int × S2) := aI S (c0 + 6) 48 a1 fun v5 => aI S (c0 + 8) 48 a1 fun v11 => aI S (c0 + 6) 48 a2 fun v18 => aI S (c0 + 8) 48 a2 fun v24 => cI ((v5 - v11) - (v18 - v24)) 0 (if 0 < ((v5 - v11) - (v18 - v24)) then (f_X5_isAhead_51 c0 N) S else cI ((v5 - v11) - (v18 - v24)) 0 (if ((v5 - v11) - (v18 - v24)) = 0 then aI S (c0 + 5) 48 a1 fun v41 => aI S (c0 + 5) 48 a2 fun v47 => cI v41 v47 (if v47 ≤ v41 then rZ 0 S else (f_X5_isAhead_51 c0 N) S) else rZ 0 S))
abbrev rmX5_isAhead : Room := { frames := 0, cells := 0, slots := 0, locals := 0 }
theorem hd_X5_isAhead : yX5_isAhead.cls ≠ "java/lang/invoke/MethodHandle" ∧ yX5_isAhead.cls ≠ "java/lang/invoke/VarHandle" ∧ (parseMethodDescriptor yX5_isAhead.desc).map (fun d => d.parameters.length) = some 2 := by decide +kernel
set_option maxRecDepth 100000 in
set_option maxHeartbeats 4000000 in
theorem w_X5_isAhead_51 {p : Program} (l : Launch) {e : Env} {s : State} {m : MethodId} {args : Array Value} {below : List Frame} {meth : Method} {c : Code} {X : XT} (hinj : XInj X nC) (hZ : ZOK (Zc X)) (C : CX p s m args meth c cX5_isAhead 4 RX5 (some .boolean) X nC (Zc X)) (out : Int × S2) (c0 : Nat) (i0 : Is5 c0) : ∀ (N : Nat), ∀ (S : S2) (H : Heap) (locs : List Loc) (ls : Array Slot), f_X5_isAhead_51 c0 N S = some out → WH X shC nC s S H locs → lv_has ls 4 [] → W p l e rmX5_isAhead s m args below meth c H locs 0 0 (QI X shC nC s args below out) (F0 m 51 ls []) := by
  intro N S H locs ls hf hw hl
  unfold f_X5_isAhead_51 at hf
  refine r_iconst (v := 1) C dX5_isAhead_51 ?_
  refine lv_goto (tgt := 56) C.1.1 C.1.2.1 dX5_isAhead_52 (by decide) ?_
  exact r_retZ C hw dX5_isAhead_56 hf
set_option maxRecDepth 100000 in
set_option maxHeartbeats 4000000 in
theorem c_X5_isAhead (l : Launch) (X : XT) (hinj : XInj X nC) (hZ : ZOK (Zc X)) (N : Nat) (S : S2) (c0 : Nat) (a1 : Int) (a2 : Int) (i0 : Is5 c0) (out : Int × S2) (hf : f_X5_isAhead N S c0 a1 a2 = some out) : MI l X shC nC (Zc X) yX5_isAhead cX5_isAhead 4 (some .boolean) rmX5_isAhead [.ref (X.2.2 c0), .int (iz a1), .int (iz a2)] S out := by
  refine met_I (own := RX5) (by decide) rfl hinj hZ (Nat.le_of_ble_eq_true rfl) (fun p e s m args below meth c C ls H locs hw hl => ?_)
  unfold f_X5_isAhead at hf
  have hl : lv_has ls 4 [(0, .ref (X.2.2 c0)), (1, .int (iz a1)), (2, .int (iz a2))] := hl
  refine lv_aload_n C.1.1 C.1.2.1 dX5_isAhead_0 rfl (lv_at hl 0 rfl) ?_
  refine r_getR (k := 7) C hw (is5_s i0) (is5_l i0) cO5 rfl (by decide) tw1_121 rfl dX5_isAhead_1 ?_
  refine lv_iload_n C.1.1 C.1.2.1 dX5_isAhead_4 rfl (lv_at hl 1 rfl) ?_
  refine r_iald C hw (is5_s6 i0) (is5_l6 i0) (Nat.le_of_ble_eq_true rfl) dX5_isAhead_5 hf (fun v5 hf => ?_)
  refine lv_aload_n C.1.1 C.1.2.1 dX5_isAhead_6 rfl (lv_at hl 0 rfl) ?_
  refine r_getR (k := 9) C hw (is5_s i0) (is5_l i0) cO5 rfl (by decide) tw1_123 rfl dX5_isAhead_7 ?_
  refine lv_iload_n C.1.1 C.1.2.1 dX5_isAhead_10 rfl (lv_at hl 1 rfl) ?_
  refine r_iald C hw (is5_s8 i0) (is5_l8 i0) (Nat.le_of_ble_eq_true rfl) dX5_isAhead_11 hf (fun v11 hf => ?_)
  refine r_isub C dX5_isAhead_12 ?_
  refine lv_aload_n C.1.1 C.1.2.1 dX5_isAhead_13 rfl (lv_at hl 0 rfl) ?_
  refine r_getR (k := 7) C hw (is5_s i0) (is5_l i0) cO5 rfl (by decide) tw1_121 rfl dX5_isAhead_14 ?_
  refine lv_iload_n C.1.1 C.1.2.1 dX5_isAhead_17 rfl (lv_at hl 2 rfl) ?_
  refine r_iald C hw (is5_s6 i0) (is5_l6 i0) (Nat.le_of_ble_eq_true rfl) dX5_isAhead_18 hf (fun v18 hf => ?_)
  refine lv_aload_n C.1.1 C.1.2.1 dX5_isAhead_19 rfl (lv_at hl 0 rfl) ?_
  refine r_getR (k := 9) C hw (is5_s i0) (is5_l i0) cO5 rfl (by decide) tw1_123 rfl dX5_isAhead_20 ?_
  refine lv_iload_n C.1.1 C.1.2.1 dX5_isAhead_23 rfl (lv_at hl 2 rfl) ?_
  refine r_iald C hw (is5_s8 i0) (is5_l8 i0) (Nat.le_of_ble_eq_true rfl) dX5_isAhead_24 hf (fun v24 hf => ?_)
  refine r_isub C dX5_isAhead_25 ?_
  refine r_isub C dX5_isAhead_26 ?_
  refine lv_istore_n (lv' := [(3, .int (iz ((v5 - v11) - (v18 - v24)))), (0, .ref (X.2.2 c0)), (1, .int (iz a1)), (2, .int (iz a2))]) C.1.1 C.1.2.1 dX5_isAhead_27 rfl hl (by decide) rfl (fun ls hl => ?_)
  refine lv_iload_n C.1.1 C.1.2.1 dX5_isAhead_28 rfl (lv_at hl 0 rfl) ?_
  refine r_if_gt C (tgt := 51) dX5_isAhead_29 (by decide) hf (fun hf => ?_) (fun hf => ?_)
  · exact (w_X5_isAhead_51 l hinj hZ C out c0 i0 N) S H locs ls hf hw (lv_sub hl [] rfl)
  · refine lv_iload_n C.1.1 C.1.2.1 dX5_isAhead_32 rfl (lv_at hl 0 rfl) ?_
    refine r_if_ne C (tgt := 55) dX5_isAhead_33 (by decide) hf (fun hf => ?_) (fun hf => ?_)
    · refine r_iconst (v := 0) C dX5_isAhead_55 ?_
      exact r_retZ C hw dX5_isAhead_56 hf
    · refine lv_aload_n C.1.1 C.1.2.1 dX5_isAhead_36 rfl (lv_at hl 1 rfl) ?_
      refine r_getR (k := 6) C hw (is5_s i0) (is5_l i0) cO5 rfl (by decide) tw1_120 rfl dX5_isAhead_37 ?_
      refine lv_iload_n C.1.1 C.1.2.1 dX5_isAhead_40 rfl (lv_at hl 2 rfl) ?_
      refine r_iald C hw (is5_s5 i0) (is5_l5 i0) (Nat.le_of_ble_eq_true rfl) dX5_isAhead_41 hf (fun v41 hf => ?_)
      refine lv_aload_n C.1.1 C.1.2.1 dX5_isAhead_42 rfl (lv_at hl 1 rfl) ?_
      refine r_getR (k := 6) C hw (is5_s i0) (is5_l i0) cO5 rfl (by decide) tw1_120 rfl dX5_isAhead_43 ?_
      refine lv_iload_n C.1.1 C.1.2.1 dX5_isAhead_46 rfl (lv_at hl 3 rfl) ?_
      refine r_iald C hw (is5_s5 i0) (is5_l5 i0) (Nat.le_of_ble_eq_true rfl) dX5_isAhead_47 hf (fun v47 hf => ?_)
      refine r_icmp_ge C (tgt := 55) dX5_isAhead_48 (by decide) hf (fun hf => ?_) (fun hf => ?_)
      · refine r_iconst (v := 0) C dX5_isAhead_55 ?_
        exact r_retZ C hw dX5_isAhead_56 hf
      · exact (w_X5_isAhead_51 l hinj hZ C out c0 i0 N) S H locs ls hf hw (lv_sub hl [] rfl)
def f_X5_placeOf (N : Nat) (S : S2) (c0 : Nat) (a1 : Int) : Option (Int × S2) := aI S (c0 + 11) 48 a1 fun v9 => aI S (c0 + 5) 48 v9 fun v10 => rI v10 S
abbrev rmX5_placeOf : Room := { frames := 0, cells := 0, slots := 0, locals := 0 }
theorem hd_X5_placeOf : yX5_placeOf.cls ≠ "java/lang/invoke/MethodHandle" ∧ yX5_placeOf.cls ≠ "java/lang/invoke/VarHandle" ∧ (parseMethodDescriptor yX5_placeOf.desc).map (fun d => d.parameters.length) = some 1 := by decide +kernel
set_option maxRecDepth 100000 in
set_option maxHeartbeats 4000000 in
theorem c_X5_placeOf (l : Launch) (X : XT) (hinj : XInj X nC) (hZ : ZOK (Zc X)) (N : Nat) (S : S2) (c0 : Nat) (a1 : Int) (i0 : Is5 c0) (out : Int × S2) (hf : f_X5_placeOf N S c0 a1 = some out) : MI l X shC nC (Zc X) yX5_placeOf cX5_placeOf 2 (some .int) rmX5_placeOf [.ref (X.2.2 c0), .int (iz a1)] S out := by
  refine met_I (own := RX5) (by decide) rfl hinj hZ (Nat.le_of_ble_eq_true rfl) (fun p e s m args below meth c C ls H locs hw hl => ?_)
  unfold f_X5_placeOf at hf
  have hl : lv_has ls 2 [(0, .ref (X.2.2 c0)), (1, .int (iz a1))] := hl
  refine lv_aload_n C.1.1 C.1.2.1 dX5_placeOf_0 rfl (lv_at hl 0 rfl) ?_
  refine r_getR (k := 6) C hw (is5_s i0) (is5_l i0) cO5 rfl (by decide) tw1_120 rfl dX5_placeOf_1 ?_
  refine lv_aload_n C.1.1 C.1.2.1 dX5_placeOf_4 rfl (lv_at hl 0 rfl) ?_
  refine r_getR (k := 12) C hw (is5_s i0) (is5_l i0) cO5 rfl (by decide) tw1_126 rfl dX5_placeOf_5 ?_
  refine lv_iload_n C.1.1 C.1.2.1 dX5_placeOf_8 rfl (lv_at hl 1 rfl) ?_
  refine r_iald C hw (is5_s11 i0) (is5_l11 i0) (Nat.le_of_ble_eq_true rfl) dX5_placeOf_9 hf (fun v9 hf => ?_)
  refine r_iald C hw (is5_s5 i0) (is5_l5 i0) (Nat.le_of_ble_eq_true rfl) dX5_placeOf_10 hf (fun v10 hf => ?_)
  exact r_retI C hw dX5_placeOf_11 hf
def f_X5_heightOf (N : Nat) (S : S2) (c0 : Nat) (a1 : Int) : Option (Int × S2) := aI S (c0 + 11) 48 a1 fun v9 => aI S (c0 + 6) 48 v9 fun v10 => rI v10 S
abbrev rmX5_heightOf : Room := { frames := 0, cells := 0, slots := 0, locals := 0 }
theorem hd_X5_heightOf : yX5_heightOf.cls ≠ "java/lang/invoke/MethodHandle" ∧ yX5_heightOf.cls ≠ "java/lang/invoke/VarHandle" ∧ (parseMethodDescriptor yX5_heightOf.desc).map (fun d => d.parameters.length) = some 1 := by decide +kernel
set_option maxRecDepth 100000 in
set_option maxHeartbeats 4000000 in
theorem c_X5_heightOf (l : Launch) (X : XT) (hinj : XInj X nC) (hZ : ZOK (Zc X)) (N : Nat) (S : S2) (c0 : Nat) (a1 : Int) (i0 : Is5 c0) (out : Int × S2) (hf : f_X5_heightOf N S c0 a1 = some out) : MI l X shC nC (Zc X) yX5_heightOf cX5_heightOf 2 (some .int) rmX5_heightOf [.ref (X.2.2 c0), .int (iz a1)] S out := by
  refine met_I (own := RX5) (by decide) rfl hinj hZ (Nat.le_of_ble_eq_true rfl) (fun p e s m args below meth c C ls H locs hw hl => ?_)
  unfold f_X5_heightOf at hf
  have hl : lv_has ls 2 [(0, .ref (X.2.2 c0)), (1, .int (iz a1))] := hl
  refine lv_aload_n C.1.1 C.1.2.1 dX5_heightOf_0 rfl (lv_at hl 0 rfl) ?_
  refine r_getR (k := 7) C hw (is5_s i0) (is5_l i0) cO5 rfl (by decide) tw1_121 rfl dX5_heightOf_1 ?_
  refine lv_aload_n C.1.1 C.1.2.1 dX5_heightOf_4 rfl (lv_at hl 0 rfl) ?_
  refine r_getR (k := 12) C hw (is5_s i0) (is5_l i0) cO5 rfl (by decide) tw1_126 rfl dX5_heightOf_5 ?_
  refine lv_iload_n C.1.1 C.1.2.1 dX5_heightOf_8 rfl (lv_at hl 1 rfl) ?_
  refine r_iald C hw (is5_s11 i0) (is5_l11 i0) (Nat.le_of_ble_eq_true rfl) dX5_heightOf_9 hf (fun v9 hf => ?_)
  refine r_iald C hw (is5_s6 i0) (is5_l6 i0) (Nat.le_of_ble_eq_true rfl) dX5_heightOf_10 hf (fun v10 hf => ?_)
  exact r_retI C hw dX5_heightOf_11 hf
def f_X5_valleyOf (N : Nat) (S : S2) (c0 : Nat) (a1 : Int) : Option (Int × S2) := aI S (c0 + 11) 48 a1 fun v9 => aI S (c0 + 7) 48 v9 fun v10 => rI v10 S
abbrev rmX5_valleyOf : Room := { frames := 0, cells := 0, slots := 0, locals := 0 }
theorem hd_X5_valleyOf : yX5_valleyOf.cls ≠ "java/lang/invoke/MethodHandle" ∧ yX5_valleyOf.cls ≠ "java/lang/invoke/VarHandle" ∧ (parseMethodDescriptor yX5_valleyOf.desc).map (fun d => d.parameters.length) = some 1 := by decide +kernel
set_option maxRecDepth 100000 in
set_option maxHeartbeats 4000000 in
theorem c_X5_valleyOf (l : Launch) (X : XT) (hinj : XInj X nC) (hZ : ZOK (Zc X)) (N : Nat) (S : S2) (c0 : Nat) (a1 : Int) (i0 : Is5 c0) (out : Int × S2) (hf : f_X5_valleyOf N S c0 a1 = some out) : MI l X shC nC (Zc X) yX5_valleyOf cX5_valleyOf 2 (some .int) rmX5_valleyOf [.ref (X.2.2 c0), .int (iz a1)] S out := by
  refine met_I (own := RX5) (by decide) rfl hinj hZ (Nat.le_of_ble_eq_true rfl) (fun p e s m args below meth c C ls H locs hw hl => ?_)
  unfold f_X5_valleyOf at hf
  have hl : lv_has ls 2 [(0, .ref (X.2.2 c0)), (1, .int (iz a1))] := hl
  refine lv_aload_n C.1.1 C.1.2.1 dX5_valleyOf_0 rfl (lv_at hl 0 rfl) ?_
  refine r_getR (k := 8) C hw (is5_s i0) (is5_l i0) cO5 rfl (by decide) tw1_122 rfl dX5_valleyOf_1 ?_
  refine lv_aload_n C.1.1 C.1.2.1 dX5_valleyOf_4 rfl (lv_at hl 0 rfl) ?_
  refine r_getR (k := 12) C hw (is5_s i0) (is5_l i0) cO5 rfl (by decide) tw1_126 rfl dX5_valleyOf_5 ?_
  refine lv_iload_n C.1.1 C.1.2.1 dX5_valleyOf_8 rfl (lv_at hl 1 rfl) ?_
  refine r_iald C hw (is5_s11 i0) (is5_l11 i0) (Nat.le_of_ble_eq_true rfl) dX5_valleyOf_9 hf (fun v9 hf => ?_)
  refine r_iald C hw (is5_s7 i0) (is5_l7 i0) (Nat.le_of_ble_eq_true rfl) dX5_valleyOf_10 hf (fun v10 hf => ?_)
  exact r_retI C hw dX5_valleyOf_11 hf
def f_X5_deathOf (N : Nat) (S : S2) (c0 : Nat) (a1 : Int) : Option (Int × S2) := aI S (c0 + 11) 48 a1 fun v9 => aI S (c0 + 8) 48 v9 fun v10 => rI v10 S
abbrev rmX5_deathOf : Room := { frames := 0, cells := 0, slots := 0, locals := 0 }
theorem hd_X5_deathOf : yX5_deathOf.cls ≠ "java/lang/invoke/MethodHandle" ∧ yX5_deathOf.cls ≠ "java/lang/invoke/VarHandle" ∧ (parseMethodDescriptor yX5_deathOf.desc).map (fun d => d.parameters.length) = some 1 := by decide +kernel
set_option maxRecDepth 100000 in
set_option maxHeartbeats 4000000 in
theorem c_X5_deathOf (l : Launch) (X : XT) (hinj : XInj X nC) (hZ : ZOK (Zc X)) (N : Nat) (S : S2) (c0 : Nat) (a1 : Int) (i0 : Is5 c0) (out : Int × S2) (hf : f_X5_deathOf N S c0 a1 = some out) : MI l X shC nC (Zc X) yX5_deathOf cX5_deathOf 2 (some .int) rmX5_deathOf [.ref (X.2.2 c0), .int (iz a1)] S out := by
  refine met_I (own := RX5) (by decide) rfl hinj hZ (Nat.le_of_ble_eq_true rfl) (fun p e s m args below meth c C ls H locs hw hl => ?_)
  unfold f_X5_deathOf at hf
  have hl : lv_has ls 2 [(0, .ref (X.2.2 c0)), (1, .int (iz a1))] := hl
  refine lv_aload_n C.1.1 C.1.2.1 dX5_deathOf_0 rfl (lv_at hl 0 rfl) ?_
  refine r_getR (k := 9) C hw (is5_s i0) (is5_l i0) cO5 rfl (by decide) tw1_123 rfl dX5_deathOf_1 ?_
  refine lv_aload_n C.1.1 C.1.2.1 dX5_deathOf_4 rfl (lv_at hl 0 rfl) ?_
  refine r_getR (k := 12) C hw (is5_s i0) (is5_l i0) cO5 rfl (by decide) tw1_126 rfl dX5_deathOf_5 ?_
  refine lv_iload_n C.1.1 C.1.2.1 dX5_deathOf_8 rfl (lv_at hl 1 rfl) ?_
  refine r_iald C hw (is5_s11 i0) (is5_l11 i0) (Nat.le_of_ble_eq_true rfl) dX5_deathOf_9 hf (fun v9 hf => ?_)
  refine r_iald C hw (is5_s8 i0) (is5_l8 i0) (Nat.le_of_ble_eq_true rfl) dX5_deathOf_10 hf (fun v10 hf => ?_)
  exact r_retI C hw dX5_deathOf_11 hf
def f_X5_persistenceOf (N : Nat) (S : S2) (c0 : Nat) (a1 : Int) : Option (Int × S2) := bI (f_X5_heightOf N S c0 a1) fun v2 S2 => bI (f_X5_deathOf N S2 c0 a1) fun v7 S7 => rI (v2 - v7) S7
abbrev rmX5_persistenceOf : Room := { frames := 1, cells := 0, slots := 0, locals := 21 }
theorem hd_X5_persistenceOf : yX5_persistenceOf.cls ≠ "java/lang/invoke/MethodHandle" ∧ yX5_persistenceOf.cls ≠ "java/lang/invoke/VarHandle" ∧ (parseMethodDescriptor yX5_persistenceOf.desc).map (fun d => d.parameters.length) = some 1 := by decide +kernel
set_option maxRecDepth 100000 in
set_option maxHeartbeats 4000000 in
theorem c_X5_persistenceOf (l : Launch) (X : XT) (hinj : XInj X nC) (hZ : ZOK (Zc X)) (N : Nat) (S : S2) (c0 : Nat) (a1 : Int) (i0 : Is5 c0) (out : Int × S2) (hf : f_X5_persistenceOf N S c0 a1 = some out) : MI l X shC nC (Zc X) yX5_persistenceOf cX5_persistenceOf 2 (some .int) rmX5_persistenceOf [.ref (X.2.2 c0), .int (iz a1)] S out := by
  refine met_I (own := RX5) (by decide) rfl hinj hZ (Nat.le_of_ble_eq_true rfl) (fun p e s m args below meth c C ls H locs hw hl => ?_)
  unfold f_X5_persistenceOf at hf
  have hl : lv_has ls 2 [(0, .ref (X.2.2 c0)), (1, .int (iz a1))] := hl
  refine lv_aload_n C.1.1 C.1.2.1 dX5_persistenceOf_0 rfl (lv_at hl 0 rfl) ?_
  refine lv_iload_n C.1.1 C.1.2.1 dX5_persistenceOf_1 rfl (lv_at hl 1 rfl) ?_
  refine r_callI (As := [.int (iz a1)]) (rest := []) (rm := rmX5_heightOf) C hw (is5_s i0) (is5_l i0) cO5 tw3_104 tw3_105 tw3_106 tw1_5 tw3_107 hd_X5_heightOf rfl ⟨⟨rfl, rfl⟩, Nat.le_of_ble_eq_true rfl, Nat.le_of_ble_eq_true rfl⟩ hl.1 rfl (Nat.le_of_ble_eq_true rfl) dX5_persistenceOf_2 hf (fun o ho => c_X5_heightOf l X hinj hZ N S c0 a1 i0 o ho) (fun v2 S2 H locs hf hw => ?_)
  refine lv_aload_n C.1.1 C.1.2.1 dX5_persistenceOf_5 rfl (lv_at hl 0 rfl) ?_
  refine lv_iload_n C.1.1 C.1.2.1 dX5_persistenceOf_6 rfl (lv_at hl 1 rfl) ?_
  refine r_callI (As := [.int (iz a1)]) (rest := [.int (iz v2)]) (rm := rmX5_deathOf) C hw (is5_s i0) (is5_l i0) cO5 tw3_108 tw3_109 tw3_110 tw1_5 tw3_111 hd_X5_deathOf rfl ⟨⟨rfl, rfl⟩, Nat.le_of_ble_eq_true rfl, Nat.le_of_ble_eq_true rfl⟩ hl.1 rfl (Nat.le_of_ble_eq_true rfl) dX5_persistenceOf_7 hf (fun o ho => c_X5_deathOf l X hinj hZ N S2 c0 a1 i0 o ho) (fun v7 S7 H locs hf hw => ?_)
  refine r_isub C dX5_persistenceOf_10 ?_
  exact r_retI C hw dX5_persistenceOf_11 hf
def f_X5_parentOf (N : Nat) (S : S2) (c0 : Nat) (a1 : Int) : Option (Int × S2) := aI S (c0 + 11) 48 a1 fun v9 => aI S (c0 + 9) 48 v9 fun v10 => cI v10 (-1) (if v10 = (-1) then rI (-1) S else aI S (c0 + 12) 48 v10 fun v26 => rI v26 S)
abbrev rmX5_parentOf : Room := { frames := 0, cells := 0, slots := 0, locals := 0 }
theorem hd_X5_parentOf : yX5_parentOf.cls ≠ "java/lang/invoke/MethodHandle" ∧ yX5_parentOf.cls ≠ "java/lang/invoke/VarHandle" ∧ (parseMethodDescriptor yX5_parentOf.desc).map (fun d => d.parameters.length) = some 1 := by decide +kernel
set_option maxRecDepth 100000 in
set_option maxHeartbeats 4000000 in
theorem c_X5_parentOf (l : Launch) (X : XT) (hinj : XInj X nC) (hZ : ZOK (Zc X)) (N : Nat) (S : S2) (c0 : Nat) (a1 : Int) (i0 : Is5 c0) (out : Int × S2) (hf : f_X5_parentOf N S c0 a1 = some out) : MI l X shC nC (Zc X) yX5_parentOf cX5_parentOf 3 (some .int) rmX5_parentOf [.ref (X.2.2 c0), .int (iz a1)] S out := by
  refine met_I (own := RX5) (by decide) rfl hinj hZ (Nat.le_of_ble_eq_true rfl) (fun p e s m args below meth c C ls H locs hw hl => ?_)
  unfold f_X5_parentOf at hf
  have hl : lv_has ls 3 [(0, .ref (X.2.2 c0)), (1, .int (iz a1))] := hl
  refine lv_aload_n C.1.1 C.1.2.1 dX5_parentOf_0 rfl (lv_at hl 0 rfl) ?_
  refine r_getR (k := 10) C hw (is5_s i0) (is5_l i0) cO5 rfl (by decide) tw1_124 rfl dX5_parentOf_1 ?_
  refine lv_aload_n C.1.1 C.1.2.1 dX5_parentOf_4 rfl (lv_at hl 0 rfl) ?_
  refine r_getR (k := 12) C hw (is5_s i0) (is5_l i0) cO5 rfl (by decide) tw1_126 rfl dX5_parentOf_5 ?_
  refine lv_iload_n C.1.1 C.1.2.1 dX5_parentOf_8 rfl (lv_at hl 1 rfl) ?_
  refine r_iald C hw (is5_s11 i0) (is5_l11 i0) (Nat.le_of_ble_eq_true rfl) dX5_parentOf_9 hf (fun v9 hf => ?_)
  refine r_iald C hw (is5_s9 i0) (is5_l9 i0) (Nat.le_of_ble_eq_true rfl) dX5_parentOf_10 hf (fun v10 hf => ?_)
  refine lv_istore_n (lv' := [(2, .int (iz v10)), (0, .ref (X.2.2 c0)), (1, .int (iz a1))]) C.1.1 C.1.2.1 dX5_parentOf_11 rfl hl (by decide) rfl (fun ls hl => ?_)
  refine lv_iload_n C.1.1 C.1.2.1 dX5_parentOf_12 rfl (lv_at hl 0 rfl) ?_
  refine r_iconst (v := (-1)) C dX5_parentOf_13 ?_
  refine r_icmp_ne C (tgt := 21) dX5_parentOf_14 (by decide) hf (fun hf => ?_) (fun hf => ?_)
  · refine lv_aload_n C.1.1 C.1.2.1 dX5_parentOf_21 rfl (lv_at hl 1 rfl) ?_
    refine r_getR (k := 13) C hw (is5_s i0) (is5_l i0) cO5 rfl (by decide) tw1_127 rfl dX5_parentOf_22 ?_
    refine lv_iload_n C.1.1 C.1.2.1 dX5_parentOf_25 rfl (lv_at hl 0 rfl) ?_
    refine r_iald C hw (is5_s12 i0) (is5_l12 i0) (Nat.le_of_ble_eq_true rfl) dX5_parentOf_26 hf (fun v26 hf => ?_)
    exact r_retI C hw dX5_parentOf_27 hf
  · refine r_iconst (v := (-1)) C dX5_parentOf_17 ?_
    refine lv_goto (tgt := 27) C.1.1 C.1.2.1 dX5_parentOf_18 (by decide) ?_
    exact r_retI C hw dX5_parentOf_27 hf
def f_X5_generationOf (N : Nat) (S : S2) (c0 : Nat) (a1 : Int) : Option (Int × S2) := aI S (c0 + 11) 48 a1 fun v9 => aI S (c0 + 10) 48 v9 fun v10 => rI v10 S
abbrev rmX5_generationOf : Room := { frames := 0, cells := 0, slots := 0, locals := 0 }
theorem hd_X5_generationOf : yX5_generationOf.cls ≠ "java/lang/invoke/MethodHandle" ∧ yX5_generationOf.cls ≠ "java/lang/invoke/VarHandle" ∧ (parseMethodDescriptor yX5_generationOf.desc).map (fun d => d.parameters.length) = some 1 := by decide +kernel
set_option maxRecDepth 100000 in
set_option maxHeartbeats 4000000 in
theorem c_X5_generationOf (l : Launch) (X : XT) (hinj : XInj X nC) (hZ : ZOK (Zc X)) (N : Nat) (S : S2) (c0 : Nat) (a1 : Int) (i0 : Is5 c0) (out : Int × S2) (hf : f_X5_generationOf N S c0 a1 = some out) : MI l X shC nC (Zc X) yX5_generationOf cX5_generationOf 2 (some .int) rmX5_generationOf [.ref (X.2.2 c0), .int (iz a1)] S out := by
  refine met_I (own := RX5) (by decide) rfl hinj hZ (Nat.le_of_ble_eq_true rfl) (fun p e s m args below meth c C ls H locs hw hl => ?_)
  unfold f_X5_generationOf at hf
  have hl : lv_has ls 2 [(0, .ref (X.2.2 c0)), (1, .int (iz a1))] := hl
  refine lv_aload_n C.1.1 C.1.2.1 dX5_generationOf_0 rfl (lv_at hl 0 rfl) ?_
  refine r_getR (k := 11) C hw (is5_s i0) (is5_l i0) cO5 rfl (by decide) tw1_125 rfl dX5_generationOf_1 ?_
  refine lv_aload_n C.1.1 C.1.2.1 dX5_generationOf_4 rfl (lv_at hl 0 rfl) ?_
  refine r_getR (k := 12) C hw (is5_s i0) (is5_l i0) cO5 rfl (by decide) tw1_126 rfl dX5_generationOf_5 ?_
  refine lv_iload_n C.1.1 C.1.2.1 dX5_generationOf_8 rfl (lv_at hl 1 rfl) ?_
  refine r_iald C hw (is5_s11 i0) (is5_l11 i0) (Nat.le_of_ble_eq_true rfl) dX5_generationOf_9 hf (fun v9 hf => ?_)
  refine r_iald C hw (is5_s10 i0) (is5_l10 i0) (Nat.le_of_ble_eq_true rfl) dX5_generationOf_10 hf (fun v10 hf => ?_)
  exact r_retI C hw dX5_generationOf_11 hf
def f_X5_sumOfPersistences_4 (c0 : Nat) : Nat → Int → Int → Int → S2 → Option (Int × S2)
  | 0, _, _, _, _ => none
  | N + 1, x1, x2, x3, S => cI x3 x1 (if x1 ≤ x3 then rI x2 S else bI (f_X5_persistenceOf N S c0 x3) fun v12 S12 => (f_X5_sumOfPersistences_4 c0 N) x1 (x2 + v12) (x3 + 1) S12)
def f_X5_sumOfPersistences (N : Nat) (S : S2) (c0 : Nat) (a1 : Int) : Option (Int × S2) := (f_X5_sumOfPersistences_4 c0 N) a1 0 0 S
abbrev rmX5_sumOfPersistences : Room := { frames := 2, cells := 0, slots := 0, locals := 42 }
theorem hd_X5_sumOfPersistences : yX5_sumOfPersistences.cls ≠ "java/lang/invoke/MethodHandle" ∧ yX5_sumOfPersistences.cls ≠ "java/lang/invoke/VarHandle" ∧ (parseMethodDescriptor yX5_sumOfPersistences.desc).map (fun d => d.parameters.length) = some 1 := by decide +kernel
set_option maxRecDepth 100000 in
set_option maxHeartbeats 4000000 in
theorem w_X5_sumOfPersistences_4 {p : Program} (l : Launch) {e : Env} {s : State} {m : MethodId} {args : Array Value} {below : List Frame} {meth : Method} {c : Code} {X : XT} (hinj : XInj X nC) (hZ : ZOK (Zc X)) (C : CX p s m args meth c cX5_sumOfPersistences 4 RX5 (some .int) X nC (Zc X)) (out : Int × S2) (c0 : Nat) (i0 : Is5 c0) : ∀ (N : Nat), ∀ (x1 : Int) (x2 : Int) (x3 : Int) (S : S2) (H : Heap) (locs : List Loc) (ls : Array Slot), f_X5_sumOfPersistences_4 c0 N x1 x2 x3 S = some out → WH X shC nC s S H locs → lv_has ls 4 [(0, .ref (X.2.2 c0)), (1, .int (iz x1)), (2, .int (iz x2)), (3, .int (iz x3))] → W p l e rmX5_sumOfPersistences s m args below meth c H locs 0 0 (QI X shC nC s args below out) (F0 m 4 ls []) := by
  intro N
  induction N with
  | zero => intro x1 x2 x3 S H locs ls hf hw hl; cases hf
  | succ N ih =>
    intro x1 x2 x3 S H locs ls hf hw hl
    rw [f_X5_sumOfPersistences_4.eq_2] at hf
    refine lv_iload_n C.1.1 C.1.2.1 dX5_sumOfPersistences_4 rfl (lv_at hl 3 rfl) ?_
    refine lv_iload_n C.1.1 C.1.2.1 dX5_sumOfPersistences_5 rfl (lv_at hl 1 rfl) ?_
    refine r_icmp_ge C (tgt := 23) dX5_sumOfPersistences_6 (by decide) hf (fun hf => ?_) (fun hf => ?_)
    · refine lv_iload_n C.1.1 C.1.2.1 dX5_sumOfPersistences_23 rfl (lv_at hl 2 rfl) ?_
      exact r_retI C hw dX5_sumOfPersistences_24 hf
    · refine lv_iload_n C.1.1 C.1.2.1 dX5_sumOfPersistences_9 rfl (lv_at hl 2 rfl) ?_
      refine lv_aload_n C.1.1 C.1.2.1 dX5_sumOfPersistences_10 rfl (lv_at hl 0 rfl) ?_
      refine lv_iload_n C.1.1 C.1.2.1 dX5_sumOfPersistences_11 rfl (lv_at hl 3 rfl) ?_
      refine r_callI (As := [.int (iz x3)]) (rest := [.int (iz x2)]) (rm := rmX5_persistenceOf) C hw (is5_s i0) (is5_l i0) cO5 tw3_100 tw3_101 tw3_102 tw1_5 tw3_103 hd_X5_persistenceOf rfl ⟨⟨rfl, rfl⟩, Nat.le_of_ble_eq_true rfl, Nat.le_of_ble_eq_true rfl⟩ hl.1 rfl (Nat.le_of_ble_eq_true rfl) dX5_sumOfPersistences_12 hf (fun o ho => c_X5_persistenceOf l X hinj hZ N S c0 x3 i0 o ho) (fun v12 S12 H locs hf hw => ?_)
      refine r_iadd C dX5_sumOfPersistences_15 ?_
      refine lv_istore_n (lv' := [(2, .int (iz (x2 + v12))), (0, .ref (X.2.2 c0)), (1, .int (iz x1)), (3, .int (iz x3))]) C.1.1 C.1.2.1 dX5_sumOfPersistences_16 rfl hl (by decide) rfl (fun ls hl => ?_)
      refine lv_iinc (v := iz (x3 + 1)) (lv' := [(3, .int (iz (x3 + 1))), (2, .int (iz (x2 + v12))), (0, .ref (X.2.2 c0)), (1, .int (iz x1))]) C.1.1 C.1.2.1 dX5_sumOfPersistences_17 hl (k := 3) rfl (iz_add _ _) (by decide) rfl (fun ls hl => ?_)
      refine lv_goto (tgt := 4) C.1.1 C.1.2.1 dX5_sumOfPersistences_20 (by decide) ?_
      exact ih x1 (x2 + v12) (x3 + 1) S12 H locs ls hf hw (lv_sub hl [2, 3, 1, 0] rfl)
set_option maxRecDepth 100000 in
set_option maxHeartbeats 4000000 in
theorem c_X5_sumOfPersistences (l : Launch) (X : XT) (hinj : XInj X nC) (hZ : ZOK (Zc X)) (N : Nat) (S : S2) (c0 : Nat) (a1 : Int) (i0 : Is5 c0) (out : Int × S2) (hf : f_X5_sumOfPersistences N S c0 a1 = some out) : MI l X shC nC (Zc X) yX5_sumOfPersistences cX5_sumOfPersistences 4 (some .int) rmX5_sumOfPersistences [.ref (X.2.2 c0), .int (iz a1)] S out := by
  refine met_I (own := RX5) (by decide) rfl hinj hZ (Nat.le_of_ble_eq_true rfl) (fun p e s m args below meth c C ls H locs hw hl => ?_)
  unfold f_X5_sumOfPersistences at hf
  have hl : lv_has ls 4 [(0, .ref (X.2.2 c0)), (1, .int (iz a1))] := hl
  refine r_iconst (v := 0) C dX5_sumOfPersistences_0 ?_
  refine lv_istore_n (lv' := [(2, .int (iz 0)), (0, .ref (X.2.2 c0)), (1, .int (iz a1))]) C.1.1 C.1.2.1 dX5_sumOfPersistences_1 rfl hl (by decide) rfl (fun ls hl => ?_)
  refine r_iconst (v := 0) C dX5_sumOfPersistences_2 ?_
  refine lv_istore_n (lv' := [(3, .int (iz 0)), (2, .int (iz 0)), (0, .ref (X.2.2 c0)), (1, .int (iz a1))]) C.1.1 C.1.2.1 dX5_sumOfPersistences_3 rfl hl (by decide) rfl (fun ls hl => ?_)
  exact (w_X5_sumOfPersistences_4 l hinj hZ C out c0 i0 N) a1 0 0 S H locs ls hf hw (lv_sub hl [2, 3, 1, 0] rfl)
def f_X5_beginningAt_2 (c0 : Nat) : Nat → Int → Int → S2 → Option (Int × S2)
  | 0, _, _, _ => none
  | N + 1, x1, x2, S => gI S c0 0 fun v4 => cI x2 v4 (if v4 ≤ x2 then rI (-1) S else bI (f_X5_placeOf N S c0 x2) fun v12 S12 => cI v12 x1 (if v12 = x1 then rI x2 S12 else (f_X5_beginningAt_2 c0 N) x1 (x2 + 1) S12))
def f_X5_beginningAt (N : Nat) (S : S2) (c0 : Nat) (a1 : Int) : Option (Int × S2) := (f_X5_beginningAt_2 c0 N) a1 0 S
abbrev rmX5_beginningAt : Room := { frames := 1, cells := 0, slots := 0, locals := 21 }
theorem hd_X5_beginningAt : yX5_beginningAt.cls ≠ "java/lang/invoke/MethodHandle" ∧ yX5_beginningAt.cls ≠ "java/lang/invoke/VarHandle" ∧ (parseMethodDescriptor yX5_beginningAt.desc).map (fun d => d.parameters.length) = some 1 := by decide +kernel
set_option maxRecDepth 100000 in
set_option maxHeartbeats 4000000 in
theorem w_X5_beginningAt_2 {p : Program} (l : Launch) {e : Env} {s : State} {m : MethodId} {args : Array Value} {below : List Frame} {meth : Method} {c : Code} {X : XT} (hinj : XInj X nC) (hZ : ZOK (Zc X)) (C : CX p s m args meth c cX5_beginningAt 3 RX5 (some .int) X nC (Zc X)) (out : Int × S2) (c0 : Nat) (i0 : Is5 c0) : ∀ (N : Nat), ∀ (x1 : Int) (x2 : Int) (S : S2) (H : Heap) (locs : List Loc) (ls : Array Slot), f_X5_beginningAt_2 c0 N x1 x2 S = some out → WH X shC nC s S H locs → lv_has ls 3 [(0, .ref (X.2.2 c0)), (1, .int (iz x1)), (2, .int (iz x2))] → W p l e rmX5_beginningAt s m args below meth c H locs 0 0 (QI X shC nC s args below out) (F0 m 2 ls []) := by
  intro N
  induction N with
  | zero => intro x1 x2 S H locs ls hf hw hl; cases hf
  | succ N ih =>
    intro x1 x2 S H locs ls hf hw hl
    rw [f_X5_beginningAt_2.eq_2] at hf
    refine lv_iload_n C.1.1 C.1.2.1 dX5_beginningAt_2 rfl (lv_at hl 2 rfl) ?_
    refine lv_aload_n C.1.1 C.1.2.1 dX5_beginningAt_3 rfl (lv_at hl 0 rfl) ?_
    refine r_getI (k := 0) C hw (is5_s i0) (is5_l i0) cO5 rfl (by decide) tw1_111 rfl dX5_beginningAt_4 hf (fun v4 hf => ?_)
    refine r_icmp_ge C (tgt := 27) dX5_beginningAt_7 (by decide) hf (fun hf => ?_) (fun hf => ?_)
    · refine r_iconst (v := (-1)) C dX5_beginningAt_27 ?_
      exact r_retI C hw dX5_beginningAt_28 hf
    · refine lv_aload_n C.1.1 C.1.2.1 dX5_beginningAt_10 rfl (lv_at hl 0 rfl) ?_
      refine lv_iload_n C.1.1 C.1.2.1 dX5_beginningAt_11 rfl (lv_at hl 2 rfl) ?_
      refine r_callI (As := [.int (iz x2)]) (rest := []) (rm := rmX5_placeOf) C hw (is5_s i0) (is5_l i0) cO5 tw3_166 tw3_167 tw3_168 tw1_5 tw3_169 hd_X5_placeOf rfl ⟨⟨rfl, rfl⟩, Nat.le_of_ble_eq_true rfl, Nat.le_of_ble_eq_true rfl⟩ hl.1 rfl (Nat.le_of_ble_eq_true rfl) dX5_beginningAt_12 hf (fun o ho => c_X5_placeOf l X hinj hZ N S c0 x2 i0 o ho) (fun v12 S12 H locs hf hw => ?_)
      refine lv_iload_n C.1.1 C.1.2.1 dX5_beginningAt_15 rfl (lv_at hl 1 rfl) ?_
      refine r_icmp_ne C (tgt := 21) dX5_beginningAt_16 (by decide) hf (fun hf => ?_) (fun hf => ?_)
      · refine lv_iinc (v := iz (x2 + 1)) (lv' := [(2, .int (iz (x2 + 1))), (0, .ref (X.2.2 c0)), (1, .int (iz x1))]) C.1.1 C.1.2.1 dX5_beginningAt_21 hl (k := 2) rfl (iz_add _ _) (by decide) rfl (fun ls hl => ?_)
        refine lv_goto (tgt := 2) C.1.1 C.1.2.1 dX5_beginningAt_24 (by decide) ?_
        exact ih x1 (x2 + 1) S12 H locs ls hf hw (lv_sub hl [1, 2, 0] rfl)
      · refine lv_iload_n C.1.1 C.1.2.1 dX5_beginningAt_19 rfl (lv_at hl 2 rfl) ?_
        exact r_retI C hw dX5_beginningAt_20 hf
set_option maxRecDepth 100000 in
set_option maxHeartbeats 4000000 in
theorem c_X5_beginningAt (l : Launch) (X : XT) (hinj : XInj X nC) (hZ : ZOK (Zc X)) (N : Nat) (S : S2) (c0 : Nat) (a1 : Int) (i0 : Is5 c0) (out : Int × S2) (hf : f_X5_beginningAt N S c0 a1 = some out) : MI l X shC nC (Zc X) yX5_beginningAt cX5_beginningAt 3 (some .int) rmX5_beginningAt [.ref (X.2.2 c0), .int (iz a1)] S out := by
  refine met_I (own := RX5) (by decide) rfl hinj hZ (Nat.le_of_ble_eq_true rfl) (fun p e s m args below meth c C ls H locs hw hl => ?_)
  unfold f_X5_beginningAt at hf
  have hl : lv_has ls 3 [(0, .ref (X.2.2 c0)), (1, .int (iz a1))] := hl
  refine r_iconst (v := 0) C dX5_beginningAt_0 ?_
  refine lv_istore_n (lv' := [(2, .int (iz 0)), (0, .ref (X.2.2 c0)), (1, .int (iz a1))]) C.1.1 C.1.2.1 dX5_beginningAt_1 rfl hl (by decide) rfl (fun ls hl => ?_)
  exact (w_X5_beginningAt_2 l hinj hZ C out c0 i0 N) a1 0 S H locs ls hf hw (lv_sub hl [1, 2, 0] rfl)
def f_X5_basinStart_52 (c0 : Nat) (c1 : Nat) (N : Nat) (x3 : Int) (x4 : Int) (S : S2) : Option (Int × S2) := cI x4 (-1) (if x4 = (-1) then rI 0 S else bI (f_X0_leastPlace N S c1 (x4 + 1) (x3 - 1)) fun v70 S70 => rI v70 S70)
def f_X5_basinStart_46 (c0 : Nat) (c1 : Nat) (k12 : Int → Int → Int → S2 → Option (Int × S2)) (N : Nat) (x3 : Int) (x4 : Int) (x5 : Int) (S : S2) : Option (Int × S2) := k12 x3 x4 (x5 + 1) S
def f_X5_basinStart_12 (c0 : Nat) (c1 : Nat) (k52 : Int → Int → S2 → Option (Int × S2)) : Nat → Int → Int → Int → S2 → Option (Int × S2)
  | 0, _, _, _, _ => none
  | N + 1, x3, x4, x5, S => gI S c0 1 fun v15 => cI x5 v15 (if v15 ≤ x5 then k52 x3 x4 S else bI (f_X5_placeOf N S c0 x5) fun v24 S24 => cI v24 x3 (if x3 ≤ v24 then (f_X5_basinStart_46 c0 c1 (f_X5_basinStart_12 c0 c1 k52 N) N) x3 x4 x5 S24 else cI v24 x4 (if v24 ≤ x4 then (f_X5_basinStart_46 c0 c1 (f_X5_basinStart_12 c0 c1 k52 N) N) x3 x4 x5 S24 else (f_X5_basinStart_46 c0 c1 (f_X5_basinStart_12 c0 c1 k52 N) N) x3 v24 x5 S24)))
def f_X5_basinStart (N : Nat) (S : S2) (c0 : Nat) (c1 : Nat) (a2 : Int) : Option (Int × S2) := bI (f_X5_placeOf N S c0 a2) fun v2 S2 => (f_X5_basinStart_12 c0 c1 (f_X5_basinStart_52 c0 c1 N) N) v2 (-1) 0 S2
abbrev rmX5_basinStart : Room := { frames := 2, cells := 0, slots := 0, locals := 45 }
theorem hd_X5_basinStart : yX5_basinStart.cls ≠ "java/lang/invoke/MethodHandle" ∧ yX5_basinStart.cls ≠ "java/lang/invoke/VarHandle" ∧ (parseMethodDescriptor yX5_basinStart.desc).map (fun d => d.parameters.length) = some 2 := by decide +kernel
set_option maxRecDepth 100000 in
set_option maxHeartbeats 4000000 in
theorem w_X5_basinStart_52 {p : Program} (l : Launch) {e : Env} {s : State} {m : MethodId} {args : Array Value} {below : List Frame} {meth : Method} {c : Code} {X : XT} (hinj : XInj X nC) (hZ : ZOK (Zc X)) (C : CX p s m args meth c cX5_basinStart 7 RX5 (some .int) X nC (Zc X)) (out : Int × S2) (c0 : Nat) (c1 : Nat) (i0 : Is5 c0) (i1 : Is0 c1) : ∀ (N : Nat), ∀ (x3 : Int) (x4 : Int) (S : S2) (H : Heap) (locs : List Loc) (ls : Array Slot), f_X5_basinStart_52 c0 c1 N x3 x4 S = some out → WH X shC nC s S H locs → lv_has ls 7 [(1, .ref (X.2.2 c1)), (3, .int (iz x3)), (4, .int (iz x4))] → W p l e rmX5_basinStart s m args below meth c H locs 0 0 (QI X shC nC s args below out) (F0 m 52 ls []) := by
  intro N x3 x4 S H locs ls hf hw hl
  unfold f_X5_basinStart_52 at hf
  refine lv_iload C.1.1 C.1.2.1 dX5_basinStart_52 (lv_at hl 2 rfl) ?_
  refine r_iconst (v := (-1)) C dX5_basinStart_54 ?_
  refine r_icmp_ne C (tgt := 62) dX5_basinStart_55 (by decide) hf (fun hf => ?_) (fun hf => ?_)
  · refine lv_aload_n C.1.1 C.1.2.1 dX5_basinStart_62 rfl (lv_at hl 0 rfl) ?_
    refine lv_iload C.1.1 C.1.2.1 dX5_basinStart_63 (lv_at hl 2 rfl) ?_
    refine r_iconst (v := 1) C dX5_basinStart_65 ?_
    refine r_iadd C dX5_basinStart_66 ?_
    refine lv_iload_n C.1.1 C.1.2.1 dX5_basinStart_67 rfl (lv_at hl 1 rfl) ?_
    refine r_iconst (v := 1) C dX5_basinStart_68 ?_
    refine r_isub C dX5_basinStart_69 ?_
    refine r_callI (As := [.int (iz (x4 + 1)), .int (iz (x3 - 1))]) (rest := []) (rm := rmX0_leastPlace) C hw (is0_s i1) (is0_l i1) cO0 tw3_170 tw3_171 tw3_172 tw1_4 tw3_173 hd_X0_leastPlace rfl ⟨⟨rfl, rfl⟩, Nat.le_of_ble_eq_true rfl, Nat.le_of_ble_eq_true rfl⟩ hl.1 rfl (Nat.le_of_ble_eq_true rfl) dX5_basinStart_70 hf (fun o ho => c_X0_leastPlace l X hinj hZ N S c1 (x4 + 1) (x3 - 1) i1 o ho) (fun v70 S70 H locs hf hw => ?_)
    exact r_retI C hw dX5_basinStart_73 hf
  · refine r_iconst (v := 0) C dX5_basinStart_58 ?_
    refine lv_goto (tgt := 73) C.1.1 C.1.2.1 dX5_basinStart_59 (by decide) ?_
    exact r_retI C hw dX5_basinStart_73 hf
set_option maxRecDepth 100000 in
set_option maxHeartbeats 4000000 in
theorem w_X5_basinStart_46 {p : Program} (l : Launch) {e : Env} {s : State} {m : MethodId} {args : Array Value} {below : List Frame} {meth : Method} {c : Code} {X : XT} (hinj : XInj X nC) (hZ : ZOK (Zc X)) (C : CX p s m args meth c cX5_basinStart 7 RX5 (some .int) X nC (Zc X)) (out : Int × S2) (c0 : Nat) (c1 : Nat) (i0 : Is5 c0) (i1 : Is0 c1) (k12 : Int → Int → Int → S2 → Option (Int × S2)) (hk12 : ∀ (x3 : Int) (x4 : Int) (x5 : Int) (S : S2) (H : Heap) (locs : List Loc) (ls : Array Slot), k12 x3 x4 x5 S = some out → WH X shC nC s S H locs → lv_has ls 7 [(0, .ref (X.2.2 c0)), (1, .ref (X.2.2 c1)), (3, .int (iz x3)), (4, .int (iz x4)), (5, .int (iz x5))] → W p l e rmX5_basinStart s m args below meth c H locs 0 0 (QI X shC nC s args below out) (F0 m 12 ls [])) : ∀ (N : Nat), ∀ (x3 : Int) (x4 : Int) (x5 : Int) (S : S2) (H : Heap) (locs : List Loc) (ls : Array Slot), f_X5_basinStart_46 c0 c1 k12 N x3 x4 x5 S = some out → WH X shC nC s S H locs → lv_has ls 7 [(0, .ref (X.2.2 c0)), (1, .ref (X.2.2 c1)), (3, .int (iz x3)), (4, .int (iz x4)), (5, .int (iz x5))] → W p l e rmX5_basinStart s m args below meth c H locs 0 0 (QI X shC nC s args below out) (F0 m 46 ls []) := by
  intro N x3 x4 x5 S H locs ls hf hw hl
  unfold f_X5_basinStart_46 at hf
  refine lv_iinc (v := iz (x5 + 1)) (lv' := [(5, .int (iz (x5 + 1))), (0, .ref (X.2.2 c0)), (1, .ref (X.2.2 c1)), (3, .int (iz x3)), (4, .int (iz x4))]) C.1.1 C.1.2.1 dX5_basinStart_46 hl (k := 4) rfl (iz_add _ _) (by decide) rfl (fun ls hl => ?_)
  refine lv_goto (tgt := 12) C.1.1 C.1.2.1 dX5_basinStart_49 (by decide) ?_
  exact hk12 x3 x4 (x5 + 1) S H locs ls hf hw (lv_sub hl [1, 2, 3, 4, 0] rfl)
set_option maxRecDepth 100000 in
set_option maxHeartbeats 4000000 in
theorem w_X5_basinStart_12 {p : Program} (l : Launch) {e : Env} {s : State} {m : MethodId} {args : Array Value} {below : List Frame} {meth : Method} {c : Code} {X : XT} (hinj : XInj X nC) (hZ : ZOK (Zc X)) (C : CX p s m args meth c cX5_basinStart 7 RX5 (some .int) X nC (Zc X)) (out : Int × S2) (c0 : Nat) (c1 : Nat) (i0 : Is5 c0) (i1 : Is0 c1) (k52 : Int → Int → S2 → Option (Int × S2)) (hk52 : ∀ (x3 : Int) (x4 : Int) (S : S2) (H : Heap) (locs : List Loc) (ls : Array Slot), k52 x3 x4 S = some out → WH X shC nC s S H locs → lv_has ls 7 [(1, .ref (X.2.2 c1)), (3, .int (iz x3)), (4, .int (iz x4))] → W p l e rmX5_basinStart s m args below meth c H locs 0 0 (QI X shC nC s args below out) (F0 m 52 ls [])) : ∀ (N : Nat), ∀ (x3 : Int) (x4 : Int) (x5 : Int) (S : S2) (H : Heap) (locs : List Loc) (ls : Array Slot), f_X5_basinStart_12 c0 c1 k52 N x3 x4 x5 S = some out → WH X shC nC s S H locs → lv_has ls 7 [(0, .ref (X.2.2 c0)), (1, .ref (X.2.2 c1)), (3, .int (iz x3)), (4, .int (iz x4)), (5, .int (iz x5))] → W p l e rmX5_basinStart s m args below meth c H locs 0 0 (QI X shC nC s args below out) (F0 m 12 ls []) := by
  intro N
  induction N with
  | zero => intro x3 x4 x5 S H locs ls hf hw hl; cases hf
  | succ N ih =>
    intro x3 x4 x5 S H locs ls hf hw hl
    rw [f_X5_basinStart_12.eq_2] at hf
    refine lv_iload C.1.1 C.1.2.1 dX5_basinStart_12 (lv_at hl 4 rfl) ?_
    refine lv_aload_n C.1.1 C.1.2.1 dX5_basinStart_14 rfl (lv_at hl 0 rfl) ?_
    refine r_getI (k := 1) C hw (is5_s i0) (is5_l i0) cO5 rfl (by decide) tw1_113 rfl dX5_basinStart_15 hf (fun v15 hf => ?_)
    refine r_icmp_ge C (tgt := 52) dX5_basinStart_18 (by decide) hf (fun hf => ?_) (fun hf => ?_)
    · exact hk52 x3 x4 S H locs ls hf hw (lv_sub hl [1, 2, 3] rfl)
    · refine lv_aload_n C.1.1 C.1.2.1 dX5_basinStart_21 rfl (lv_at hl 0 rfl) ?_
      refine lv_iload C.1.1 C.1.2.1 dX5_basinStart_22 (lv_at hl 4 rfl) ?_
      refine r_callI (As := [.int (iz x5)]) (rest := []) (rm := rmX5_placeOf) C hw (is5_s i0) (is5_l i0) cO5 tw3_166 tw3_167 tw3_168 tw1_5 tw3_169 hd_X5_placeOf rfl ⟨⟨rfl, rfl⟩, Nat.le_of_ble_eq_true rfl, Nat.le_of_ble_eq_true rfl⟩ hl.1 rfl (Nat.le_of_ble_eq_true rfl) dX5_basinStart_24 hf (fun o ho => c_X5_placeOf l X hinj hZ N S c0 x5 i0 o ho) (fun v24 S24 H locs hf hw => ?_)
      refine lv_istore (lv' := [(6, .int (iz v24)), (0, .ref (X.2.2 c0)), (1, .ref (X.2.2 c1)), (3, .int (iz x3)), (4, .int (iz x4)), (5, .int (iz x5))]) C.1.1 C.1.2.1 dX5_basinStart_27 hl (by decide) rfl (fun ls hl => ?_)
      refine lv_iload C.1.1 C.1.2.1 dX5_basinStart_29 (lv_at hl 0 rfl) ?_
      refine lv_iload_n C.1.1 C.1.2.1 dX5_basinStart_31 rfl (lv_at hl 3 rfl) ?_
      refine r_icmp_ge C (tgt := 46) dX5_basinStart_32 (by decide) hf (fun hf => ?_) (fun hf => ?_)
      · exact (w_X5_basinStart_46 l hinj hZ C out c0 c1 i0 i1 (f_X5_basinStart_12 c0 c1 k52 N) ih N) x3 x4 x5 S24 H locs ls hf hw (lv_sub hl [1, 2, 3, 4, 5] rfl)
      · refine lv_iload C.1.1 C.1.2.1 dX5_basinStart_35 (lv_at hl 0 rfl) ?_
        refine lv_iload C.1.1 C.1.2.1 dX5_basinStart_37 (lv_at hl 4 rfl) ?_
        refine r_icmp_le C (tgt := 46) dX5_basinStart_39 (by decide) hf (fun hf => ?_) (fun hf => ?_)
        · exact (w_X5_basinStart_46 l hinj hZ C out c0 c1 i0 i1 (f_X5_basinStart_12 c0 c1 k52 N) ih N) x3 x4 x5 S24 H locs ls hf hw (lv_sub hl [1, 2, 3, 4, 5] rfl)
        · refine lv_iload C.1.1 C.1.2.1 dX5_basinStart_42 (lv_at hl 0 rfl) ?_
          refine lv_istore (lv' := [(4, .int (iz v24)), (6, .int (iz v24)), (0, .ref (X.2.2 c0)), (1, .ref (X.2.2 c1)), (3, .int (iz x3)), (5, .int (iz x5))]) C.1.1 C.1.2.1 dX5_basinStart_44 hl (by decide) rfl (fun ls hl => ?_)
          exact (w_X5_basinStart_46 l hinj hZ C out c0 c1 i0 i1 (f_X5_basinStart_12 c0 c1 k52 N) ih N) x3 v24 x5 S24 H locs ls hf hw (lv_sub hl [2, 3, 4, 0, 5] rfl)
set_option maxRecDepth 100000 in
set_option maxHeartbeats 4000000 in
theorem c_X5_basinStart (l : Launch) (X : XT) (hinj : XInj X nC) (hZ : ZOK (Zc X)) (N : Nat) (S : S2) (c0 : Nat) (c1 : Nat) (a2 : Int) (i0 : Is5 c0) (i1 : Is0 c1) (out : Int × S2) (hf : f_X5_basinStart N S c0 c1 a2 = some out) : MI l X shC nC (Zc X) yX5_basinStart cX5_basinStart 7 (some .int) rmX5_basinStart [.ref (X.2.2 c0), .ref (X.2.2 c1), .int (iz a2)] S out := by
  refine met_I (own := RX5) (by decide) rfl hinj hZ (Nat.le_of_ble_eq_true rfl) (fun p e s m args below meth c C ls H locs hw hl => ?_)
  unfold f_X5_basinStart at hf
  have hl : lv_has ls 7 [(0, .ref (X.2.2 c0)), (1, .ref (X.2.2 c1)), (2, .int (iz a2))] := hl
  refine lv_aload_n C.1.1 C.1.2.1 dX5_basinStart_0 rfl (lv_at hl 0 rfl) ?_
  refine lv_iload_n C.1.1 C.1.2.1 dX5_basinStart_1 rfl (lv_at hl 2 rfl) ?_
  refine r_callI (As := [.int (iz a2)]) (rest := []) (rm := rmX5_placeOf) C hw (is5_s i0) (is5_l i0) cO5 tw3_166 tw3_167 tw3_168 tw1_5 tw3_169 hd_X5_placeOf rfl ⟨⟨rfl, rfl⟩, Nat.le_of_ble_eq_true rfl, Nat.le_of_ble_eq_true rfl⟩ hl.1 rfl (Nat.le_of_ble_eq_true rfl) dX5_basinStart_2 hf (fun o ho => c_X5_placeOf l X hinj hZ N S c0 a2 i0 o ho) (fun v2 S2 H locs hf hw => ?_)
  refine lv_istore_n (lv' := [(3, .int (iz v2)), (0, .ref (X.2.2 c0)), (1, .ref (X.2.2 c1)), (2, .int (iz a2))]) C.1.1 C.1.2.1 dX5_basinStart_5 rfl hl (by decide) rfl (fun ls hl => ?_)
  refine r_iconst (v := (-1)) C dX5_basinStart_6 ?_
  refine lv_istore (lv' := [(4, .int (iz (-1))), (3, .int (iz v2)), (0, .ref (X.2.2 c0)), (1, .ref (X.2.2 c1)), (2, .int (iz a2))]) C.1.1 C.1.2.1 dX5_basinStart_7 hl (by decide) rfl (fun ls hl => ?_)
  refine r_iconst (v := 0) C dX5_basinStart_9 ?_
  refine lv_istore (lv' := [(5, .int (iz 0)), (4, .int (iz (-1))), (3, .int (iz v2)), (0, .ref (X.2.2 c0)), (1, .ref (X.2.2 c1)), (2, .int (iz a2))]) C.1.1 C.1.2.1 dX5_basinStart_10 hl (by decide) rfl (fun ls hl => ?_)
  exact (w_X5_basinStart_12 l hinj hZ C out c0 c1 i0 i1 (f_X5_basinStart_52 c0 c1 N) (w_X5_basinStart_52 l hinj hZ C out c0 c1 i0 i1 N) N) v2 (-1) 0 S2 H locs ls hf hw (lv_sub hl [3, 4, 2, 1, 0] rfl)
def f_X5_basinEnd_55 (c0 : Nat) (c1 : Nat) (N : Nat) (x3 : Int) (x4 : Int) (S : S2) : Option (Int × S2) := gI S c1 1 fun v58 => cI x4 v58 (if x4 = v58 then rI (x4 - 1) S else bI (f_X0_leastPlace N S c1 (x3 + 1) (x4 - 1)) fun v79 S79 => rI (v79 - 1) S79)
def f_X5_basinEnd_49 (c0 : Nat) (c1 : Nat) (k15 : Int → Int → Int → S2 → Option (Int × S2)) (N : Nat) (x3 : Int) (x4 : Int) (x5 : Int) (S : S2) : Option (Int × S2) := k15 x3 x4 (x5 + 1) S
def f_X5_basinEnd_15 (c0 : Nat) (c1 : Nat) (k55 : Int → Int → S2 → Option (Int × S2)) : Nat → Int → Int → Int → S2 → Option (Int × S2)
  | 0, _, _, _, _ => none
  | N + 1, x3, x4, x5, S => gI S c0 1 fun v18 => cI x5 v18 (if v18 ≤ x5 then k55 x3 x4 S else bI (f_X5_placeOf N S c0 x5) fun v27 S27 => cI v27 x3 (if v27 ≤ x3 then (f_X5_basinEnd_49 c0 c1 (f_X5_basinEnd_15 c0 c1 k55 N) N) x3 x4 x5 S27 else cI v27 x4 (if x4 ≤ v27 then (f_X5_basinEnd_49 c0 c1 (f_X5_basinEnd_15 c0 c1 k55 N) N) x3 x4 x5 S27 else (f_X5_basinEnd_49 c0 c1 (f_X5_basinEnd_15 c0 c1 k55 N) N) x3 v27 x5 S27)))
def f_X5_basinEnd (N : Nat) (S : S2) (c0 : Nat) (c1 : Nat) (a2 : Int) : Option (Int × S2) := bI (f_X5_placeOf N S c0 a2) fun v2 S2 => gI S2 c1 1 fun v7 => (f_X5_basinEnd_15 c0 c1 (f_X5_basinEnd_55 c0 c1 N) N) v2 v7 0 S2
abbrev rmX5_basinEnd : Room := { frames := 2, cells := 0, slots := 0, locals := 45 }
theorem hd_X5_basinEnd : yX5_basinEnd.cls ≠ "java/lang/invoke/MethodHandle" ∧ yX5_basinEnd.cls ≠ "java/lang/invoke/VarHandle" ∧ (parseMethodDescriptor yX5_basinEnd.desc).map (fun d => d.parameters.length) = some 2 := by decide +kernel
set_option maxRecDepth 100000 in
set_option maxHeartbeats 4000000 in
theorem w_X5_basinEnd_55 {p : Program} (l : Launch) {e : Env} {s : State} {m : MethodId} {args : Array Value} {below : List Frame} {meth : Method} {c : Code} {X : XT} (hinj : XInj X nC) (hZ : ZOK (Zc X)) (C : CX p s m args meth c cX5_basinEnd 7 RX5 (some .int) X nC (Zc X)) (out : Int × S2) (c0 : Nat) (c1 : Nat) (i0 : Is5 c0) (i1 : Is0 c1) : ∀ (N : Nat), ∀ (x3 : Int) (x4 : Int) (S : S2) (H : Heap) (locs : List Loc) (ls : Array Slot), f_X5_basinEnd_55 c0 c1 N x3 x4 S = some out → WH X shC nC s S H locs → lv_has ls 7 [(1, .ref (X.2.2 c1)), (3, .int (iz x3)), (4, .int (iz x4))] → W p l e rmX5_basinEnd s m args below meth c H locs 0 0 (QI X shC nC s args below out) (F0 m 55 ls []) := by
  intro N x3 x4 S H locs ls hf hw hl
  unfold f_X5_basinEnd_55 at hf
  refine lv_iload C.1.1 C.1.2.1 dX5_basinEnd_55 (lv_at hl 2 rfl) ?_
  refine lv_aload_n C.1.1 C.1.2.1 dX5_basinEnd_57 rfl (lv_at hl 0 rfl) ?_
  refine r_getI (k := 1) C hw (is0_s i1) (is0_l i1) cO0 rfl (by decide) tw1_91 rfl dX5_basinEnd_58 hf (fun v58 hf => ?_)
  refine r_icmp_ne C (tgt := 71) dX5_basinEnd_61 (by decide) hf (fun hf => ?_) (fun hf => ?_)
  · refine lv_aload_n C.1.1 C.1.2.1 dX5_basinEnd_71 rfl (lv_at hl 0 rfl) ?_
    refine lv_iload_n C.1.1 C.1.2.1 dX5_basinEnd_72 rfl (lv_at hl 1 rfl) ?_
    refine r_iconst (v := 1) C dX5_basinEnd_73 ?_
    refine r_iadd C dX5_basinEnd_74 ?_
    refine lv_iload C.1.1 C.1.2.1 dX5_basinEnd_75 (lv_at hl 2 rfl) ?_
    refine r_iconst (v := 1) C dX5_basinEnd_77 ?_
    refine r_isub C dX5_basinEnd_78 ?_
    refine r_callI (As := [.int (iz (x3 + 1)), .int (iz (x4 - 1))]) (rest := []) (rm := rmX0_leastPlace) C hw (is0_s i1) (is0_l i1) cO0 tw3_170 tw3_171 tw3_172 tw1_4 tw3_173 hd_X0_leastPlace rfl ⟨⟨rfl, rfl⟩, Nat.le_of_ble_eq_true rfl, Nat.le_of_ble_eq_true rfl⟩ hl.1 rfl (Nat.le_of_ble_eq_true rfl) dX5_basinEnd_79 hf (fun o ho => c_X0_leastPlace l X hinj hZ N S c1 (x3 + 1) (x4 - 1) i1 o ho) (fun v79 S79 H locs hf hw => ?_)
    refine r_iconst (v := 1) C dX5_basinEnd_82 ?_
    refine r_isub C dX5_basinEnd_83 ?_
    exact r_retI C hw dX5_basinEnd_84 hf
  · refine lv_iload C.1.1 C.1.2.1 dX5_basinEnd_64 (lv_at hl 2 rfl) ?_
    refine r_iconst (v := 1) C dX5_basinEnd_66 ?_
    refine r_isub C dX5_basinEnd_67 ?_
    refine lv_goto (tgt := 84) C.1.1 C.1.2.1 dX5_basinEnd_68 (by decide) ?_
    exact r_retI C hw dX5_basinEnd_84 hf
set_option maxRecDepth 100000 in
set_option maxHeartbeats 4000000 in
theorem w_X5_basinEnd_49 {p : Program} (l : Launch) {e : Env} {s : State} {m : MethodId} {args : Array Value} {below : List Frame} {meth : Method} {c : Code} {X : XT} (hinj : XInj X nC) (hZ : ZOK (Zc X)) (C : CX p s m args meth c cX5_basinEnd 7 RX5 (some .int) X nC (Zc X)) (out : Int × S2) (c0 : Nat) (c1 : Nat) (i0 : Is5 c0) (i1 : Is0 c1) (k15 : Int → Int → Int → S2 → Option (Int × S2)) (hk15 : ∀ (x3 : Int) (x4 : Int) (x5 : Int) (S : S2) (H : Heap) (locs : List Loc) (ls : Array Slot), k15 x3 x4 x5 S = some out → WH X shC nC s S H locs → lv_has ls 7 [(0, .ref (X.2.2 c0)), (1, .ref (X.2.2 c1)), (3, .int (iz x3)), (4, .int (iz x4)), (5, .int (iz x5))] → W p l e rmX5_basinEnd s m args below meth c H locs 0 0 (QI X shC nC s args below out) (F0 m 15 ls [])) : ∀ (N : Nat), ∀ (x3 : Int) (x4 : Int) (x5 : Int) (S : S2) (H : Heap) (locs : List Loc) (ls : Array Slot), f_X5_basinEnd_49 c0 c1 k15 N x3 x4 x5 S = some out → WH X shC nC s S H locs → lv_has ls 7 [(0, .ref (X.2.2 c0)), (1, .ref (X.2.2 c1)), (3, .int (iz x3)), (4, .int (iz x4)), (5, .int (iz x5))] → W p l e rmX5_basinEnd s m args below meth c H locs 0 0 (QI X shC nC s args below out) (F0 m 49 ls []) := by
  intro N x3 x4 x5 S H locs ls hf hw hl
  unfold f_X5_basinEnd_49 at hf
  refine lv_iinc (v := iz (x5 + 1)) (lv' := [(5, .int (iz (x5 + 1))), (0, .ref (X.2.2 c0)), (1, .ref (X.2.2 c1)), (3, .int (iz x3)), (4, .int (iz x4))]) C.1.1 C.1.2.1 dX5_basinEnd_49 hl (k := 4) rfl (iz_add _ _) (by decide) rfl (fun ls hl => ?_)
  refine lv_goto (tgt := 15) C.1.1 C.1.2.1 dX5_basinEnd_52 (by decide) ?_
  exact hk15 x3 x4 (x5 + 1) S H locs ls hf hw (lv_sub hl [1, 2, 3, 4, 0] rfl)
set_option maxRecDepth 100000 in
set_option maxHeartbeats 4000000 in
theorem w_X5_basinEnd_15 {p : Program} (l : Launch) {e : Env} {s : State} {m : MethodId} {args : Array Value} {below : List Frame} {meth : Method} {c : Code} {X : XT} (hinj : XInj X nC) (hZ : ZOK (Zc X)) (C : CX p s m args meth c cX5_basinEnd 7 RX5 (some .int) X nC (Zc X)) (out : Int × S2) (c0 : Nat) (c1 : Nat) (i0 : Is5 c0) (i1 : Is0 c1) (k55 : Int → Int → S2 → Option (Int × S2)) (hk55 : ∀ (x3 : Int) (x4 : Int) (S : S2) (H : Heap) (locs : List Loc) (ls : Array Slot), k55 x3 x4 S = some out → WH X shC nC s S H locs → lv_has ls 7 [(1, .ref (X.2.2 c1)), (3, .int (iz x3)), (4, .int (iz x4))] → W p l e rmX5_basinEnd s m args below meth c H locs 0 0 (QI X shC nC s args below out) (F0 m 55 ls [])) : ∀ (N : Nat), ∀ (x3 : Int) (x4 : Int) (x5 : Int) (S : S2) (H : Heap) (locs : List Loc) (ls : Array Slot), f_X5_basinEnd_15 c0 c1 k55 N x3 x4 x5 S = some out → WH X shC nC s S H locs → lv_has ls 7 [(0, .ref (X.2.2 c0)), (1, .ref (X.2.2 c1)), (3, .int (iz x3)), (4, .int (iz x4)), (5, .int (iz x5))] → W p l e rmX5_basinEnd s m args below meth c H locs 0 0 (QI X shC nC s args below out) (F0 m 15 ls []) := by
  intro N
  induction N with
  | zero => intro x3 x4 x5 S H locs ls hf hw hl; cases hf
  | succ N ih =>
    intro x3 x4 x5 S H locs ls hf hw hl
    rw [f_X5_basinEnd_15.eq_2] at hf
    refine lv_iload C.1.1 C.1.2.1 dX5_basinEnd_15 (lv_at hl 4 rfl) ?_
    refine lv_aload_n C.1.1 C.1.2.1 dX5_basinEnd_17 rfl (lv_at hl 0 rfl) ?_
    refine r_getI (k := 1) C hw (is5_s i0) (is5_l i0) cO5 rfl (by decide) tw1_113 rfl dX5_basinEnd_18 hf (fun v18 hf => ?_)
    refine r_icmp_ge C (tgt := 55) dX5_basinEnd_21 (by decide) hf (fun hf => ?_) (fun hf => ?_)
    · exact hk55 x3 x4 S H locs ls hf hw (lv_sub hl [1, 2, 3] rfl)
    · refine lv_aload_n C.1.1 C.1.2.1 dX5_basinEnd_24 rfl (lv_at hl 0 rfl) ?_
      refine lv_iload C.1.1 C.1.2.1 dX5_basinEnd_25 (lv_at hl 4 rfl) ?_
      refine r_callI (As := [.int (iz x5)]) (rest := []) (rm := rmX5_placeOf) C hw (is5_s i0) (is5_l i0) cO5 tw3_166 tw3_167 tw3_168 tw1_5 tw3_169 hd_X5_placeOf rfl ⟨⟨rfl, rfl⟩, Nat.le_of_ble_eq_true rfl, Nat.le_of_ble_eq_true rfl⟩ hl.1 rfl (Nat.le_of_ble_eq_true rfl) dX5_basinEnd_27 hf (fun o ho => c_X5_placeOf l X hinj hZ N S c0 x5 i0 o ho) (fun v27 S27 H locs hf hw => ?_)
      refine lv_istore (lv' := [(6, .int (iz v27)), (0, .ref (X.2.2 c0)), (1, .ref (X.2.2 c1)), (3, .int (iz x3)), (4, .int (iz x4)), (5, .int (iz x5))]) C.1.1 C.1.2.1 dX5_basinEnd_30 hl (by decide) rfl (fun ls hl => ?_)
      refine lv_iload C.1.1 C.1.2.1 dX5_basinEnd_32 (lv_at hl 0 rfl) ?_
      refine lv_iload_n C.1.1 C.1.2.1 dX5_basinEnd_34 rfl (lv_at hl 3 rfl) ?_
      refine r_icmp_le C (tgt := 49) dX5_basinEnd_35 (by decide) hf (fun hf => ?_) (fun hf => ?_)
      · exact (w_X5_basinEnd_49 l hinj hZ C out c0 c1 i0 i1 (f_X5_basinEnd_15 c0 c1 k55 N) ih N) x3 x4 x5 S27 H locs ls hf hw (lv_sub hl [1, 2, 3, 4, 5] rfl)
      · refine lv_iload C.1.1 C.1.2.1 dX5_basinEnd_38 (lv_at hl 0 rfl) ?_
        refine lv_iload C.1.1 C.1.2.1 dX5_basinEnd_40 (lv_at hl 4 rfl) ?_
        refine r_icmp_ge C (tgt := 49) dX5_basinEnd_42 (by decide) hf (fun hf => ?_) (fun hf => ?_)
        · exact (w_X5_basinEnd_49 l hinj hZ C out c0 c1 i0 i1 (f_X5_basinEnd_15 c0 c1 k55 N) ih N) x3 x4 x5 S27 H locs ls hf hw (lv_sub hl [1, 2, 3, 4, 5] rfl)
        · refine lv_iload C.1.1 C.1.2.1 dX5_basinEnd_45 (lv_at hl 0 rfl) ?_
          refine lv_istore (lv' := [(4, .int (iz v27)), (6, .int (iz v27)), (0, .ref (X.2.2 c0)), (1, .ref (X.2.2 c1)), (3, .int (iz x3)), (5, .int (iz x5))]) C.1.1 C.1.2.1 dX5_basinEnd_47 hl (by decide) rfl (fun ls hl => ?_)
          exact (w_X5_basinEnd_49 l hinj hZ C out c0 c1 i0 i1 (f_X5_basinEnd_15 c0 c1 k55 N) ih N) x3 v27 x5 S27 H locs ls hf hw (lv_sub hl [2, 3, 4, 0, 5] rfl)
set_option maxRecDepth 100000 in
set_option maxHeartbeats 4000000 in
theorem c_X5_basinEnd (l : Launch) (X : XT) (hinj : XInj X nC) (hZ : ZOK (Zc X)) (N : Nat) (S : S2) (c0 : Nat) (c1 : Nat) (a2 : Int) (i0 : Is5 c0) (i1 : Is0 c1) (out : Int × S2) (hf : f_X5_basinEnd N S c0 c1 a2 = some out) : MI l X shC nC (Zc X) yX5_basinEnd cX5_basinEnd 7 (some .int) rmX5_basinEnd [.ref (X.2.2 c0), .ref (X.2.2 c1), .int (iz a2)] S out := by
  refine met_I (own := RX5) (by decide) rfl hinj hZ (Nat.le_of_ble_eq_true rfl) (fun p e s m args below meth c C ls H locs hw hl => ?_)
  unfold f_X5_basinEnd at hf
  have hl : lv_has ls 7 [(0, .ref (X.2.2 c0)), (1, .ref (X.2.2 c1)), (2, .int (iz a2))] := hl
  refine lv_aload_n C.1.1 C.1.2.1 dX5_basinEnd_0 rfl (lv_at hl 0 rfl) ?_
  refine lv_iload_n C.1.1 C.1.2.1 dX5_basinEnd_1 rfl (lv_at hl 2 rfl) ?_
  refine r_callI (As := [.int (iz a2)]) (rest := []) (rm := rmX5_placeOf) C hw (is5_s i0) (is5_l i0) cO5 tw3_166 tw3_167 tw3_168 tw1_5 tw3_169 hd_X5_placeOf rfl ⟨⟨rfl, rfl⟩, Nat.le_of_ble_eq_true rfl, Nat.le_of_ble_eq_true rfl⟩ hl.1 rfl (Nat.le_of_ble_eq_true rfl) dX5_basinEnd_2 hf (fun o ho => c_X5_placeOf l X hinj hZ N S c0 a2 i0 o ho) (fun v2 S2 H locs hf hw => ?_)
  refine lv_istore_n (lv' := [(3, .int (iz v2)), (0, .ref (X.2.2 c0)), (1, .ref (X.2.2 c1)), (2, .int (iz a2))]) C.1.1 C.1.2.1 dX5_basinEnd_5 rfl hl (by decide) rfl (fun ls hl => ?_)
  refine lv_aload_n C.1.1 C.1.2.1 dX5_basinEnd_6 rfl (lv_at hl 2 rfl) ?_
  refine r_getI (k := 1) C hw (is0_s i1) (is0_l i1) cO0 rfl (by decide) tw1_91 rfl dX5_basinEnd_7 hf (fun v7 hf => ?_)
  refine lv_istore (lv' := [(4, .int (iz v7)), (3, .int (iz v2)), (0, .ref (X.2.2 c0)), (1, .ref (X.2.2 c1)), (2, .int (iz a2))]) C.1.1 C.1.2.1 dX5_basinEnd_10 hl (by decide) rfl (fun ls hl => ?_)
  refine r_iconst (v := 0) C dX5_basinEnd_12 ?_
  refine lv_istore (lv' := [(5, .int (iz 0)), (4, .int (iz v7)), (3, .int (iz v2)), (0, .ref (X.2.2 c0)), (1, .ref (X.2.2 c1)), (2, .int (iz a2))]) C.1.1 C.1.2.1 dX5_basinEnd_13 hl (by decide) rfl (fun ls hl => ?_)
  exact (w_X5_basinEnd_15 l hinj hZ C out c0 c1 i0 i1 (f_X5_basinEnd_55 c0 c1 N) (w_X5_basinEnd_55 l hinj hZ C out c0 c1 i0 i1 N) N) v2 v7 0 S2 H locs ls hf hw (lv_sub hl [3, 4, 2, 1, 0] rfl)
def f_X5_withBasinAt_32 (c0 : Nat) (c1 : Nat) (k2 : Int → Int → S2 → Option (Int × S2)) (N : Nat) (x2 : Int) (x3 : Int) (S : S2) : Option (Int × S2) := k2 x2 (x3 + 1) S
def f_X5_withBasinAt_2 (c0 : Nat) (c1 : Nat) : Nat → Int → Int → S2 → Option (Int × S2)
  | 0, _, _, _ => none
  | N + 1, x2, x3, S => gI S c0 1 fun v4 => cI x3 v4 (if v4 ≤ x3 then rI (-1) S else bI (f_X5_basinStart N S c0 c1 x3) fun v14 S14 => cI x2 v14 (if x2 < v14 then (f_X5_withBasinAt_32 c0 c1 (f_X5_withBasinAt_2 c0 c1 N) N) x2 x3 S14 else bI (f_X5_basinEnd N S14 c0 c1 x3) fun v24 S24 => cI x2 v24 (if v24 < x2 then (f_X5_withBasinAt_32 c0 c1 (f_X5_withBasinAt_2 c0 c1 N) N) x2 x3 S24 else rI x3 S24)))
def f_X5_withBasinAt (N : Nat) (S : S2) (c0 : Nat) (c1 : Nat) (a2 : Int) : Option (Int × S2) := (f_X5_withBasinAt_2 c0 c1 N) a2 0 S
abbrev rmX5_withBasinAt : Room := { frames := 3, cells := 0, slots := 0, locals := 71 }
theorem hd_X5_withBasinAt : yX5_withBasinAt.cls ≠ "java/lang/invoke/MethodHandle" ∧ yX5_withBasinAt.cls ≠ "java/lang/invoke/VarHandle" ∧ (parseMethodDescriptor yX5_withBasinAt.desc).map (fun d => d.parameters.length) = some 2 := by decide +kernel
set_option maxRecDepth 100000 in
set_option maxHeartbeats 4000000 in
theorem w_X5_withBasinAt_32 {p : Program} (l : Launch) {e : Env} {s : State} {m : MethodId} {args : Array Value} {below : List Frame} {meth : Method} {c : Code} {X : XT} (hinj : XInj X nC) (hZ : ZOK (Zc X)) (C : CX p s m args meth c cX5_withBasinAt 4 RX5 (some .int) X nC (Zc X)) (out : Int × S2) (c0 : Nat) (c1 : Nat) (i0 : Is5 c0) (i1 : Is0 c1) (k2 : Int → Int → S2 → Option (Int × S2)) (hk2 : ∀ (x2 : Int) (x3 : Int) (S : S2) (H : Heap) (locs : List Loc) (ls : Array Slot), k2 x2 x3 S = some out → WH X shC nC s S H locs → lv_has ls 4 [(0, .ref (X.2.2 c0)), (1, .ref (X.2.2 c1)), (2, .int (iz x2)), (3, .int (iz x3))] → W p l e rmX5_withBasinAt s m args below meth c H locs 0 0 (QI X shC nC s args below out) (F0 m 2 ls [])) : ∀ (N : Nat), ∀ (x2 : Int) (x3 : Int) (S : S2) (H : Heap) (locs : List Loc) (ls : Array Slot), f_X5_withBasinAt_32 c0 c1 k2 N x2 x3 S = some out → WH X shC nC s S H locs → lv_has ls 4 [(0, .ref (X.2.2 c0)), (1, .ref (X.2.2 c1)), (2, .int (iz x2)), (3, .int (iz x3))] → W p l e rmX5_withBasinAt s m args below meth c H locs 0 0 (QI X shC nC s args below out) (F0 m 32 ls []) := by
  intro N x2 x3 S H locs ls hf hw hl
  unfold f_X5_withBasinAt_32 at hf
  refine lv_iinc (v := iz (x3 + 1)) (lv' := [(3, .int (iz (x3 + 1))), (0, .ref (X.2.2 c0)), (1, .ref (X.2.2 c1)), (2, .int (iz x2))]) C.1.1 C.1.2.1 dX5_withBasinAt_32 hl (k := 3) rfl (iz_add _ _) (by decide) rfl (fun ls hl => ?_)
  refine lv_goto (tgt := 2) C.1.1 C.1.2.1 dX5_withBasinAt_35 (by decide) ?_
  exact hk2 x2 (x3 + 1) S H locs ls hf hw (lv_sub hl [1, 2, 3, 0] rfl)
set_option maxRecDepth 100000 in
set_option maxHeartbeats 4000000 in
theorem w_X5_withBasinAt_2 {p : Program} (l : Launch) {e : Env} {s : State} {m : MethodId} {args : Array Value} {below : List Frame} {meth : Method} {c : Code} {X : XT} (hinj : XInj X nC) (hZ : ZOK (Zc X)) (C : CX p s m args meth c cX5_withBasinAt 4 RX5 (some .int) X nC (Zc X)) (out : Int × S2) (c0 : Nat) (c1 : Nat) (i0 : Is5 c0) (i1 : Is0 c1) : ∀ (N : Nat), ∀ (x2 : Int) (x3 : Int) (S : S2) (H : Heap) (locs : List Loc) (ls : Array Slot), f_X5_withBasinAt_2 c0 c1 N x2 x3 S = some out → WH X shC nC s S H locs → lv_has ls 4 [(0, .ref (X.2.2 c0)), (1, .ref (X.2.2 c1)), (2, .int (iz x2)), (3, .int (iz x3))] → W p l e rmX5_withBasinAt s m args below meth c H locs 0 0 (QI X shC nC s args below out) (F0 m 2 ls []) := by
  intro N
  induction N with
  | zero => intro x2 x3 S H locs ls hf hw hl; cases hf
  | succ N ih =>
    intro x2 x3 S H locs ls hf hw hl
    rw [f_X5_withBasinAt_2.eq_2] at hf
    refine lv_iload_n C.1.1 C.1.2.1 dX5_withBasinAt_2 rfl (lv_at hl 3 rfl) ?_
    refine lv_aload_n C.1.1 C.1.2.1 dX5_withBasinAt_3 rfl (lv_at hl 0 rfl) ?_
    refine r_getI (k := 1) C hw (is5_s i0) (is5_l i0) cO5 rfl (by decide) tw1_113 rfl dX5_withBasinAt_4 hf (fun v4 hf => ?_)
    refine r_icmp_ge C (tgt := 38) dX5_withBasinAt_7 (by decide) hf (fun hf => ?_) (fun hf => ?_)
    · refine r_iconst (v := (-1)) C dX5_withBasinAt_38 ?_
      exact r_retI C hw dX5_withBasinAt_39 hf
    · refine lv_iload_n C.1.1 C.1.2.1 dX5_withBasinAt_10 rfl (lv_at hl 2 rfl) ?_
      refine lv_aload_n C.1.1 C.1.2.1 dX5_withBasinAt_11 rfl (lv_at hl 0 rfl) ?_
      refine lv_aload_n C.1.1 C.1.2.1 dX5_withBasinAt_12 rfl (lv_at hl 1 rfl) ?_
      refine lv_iload_n C.1.1 C.1.2.1 dX5_withBasinAt_13 rfl (lv_at hl 3 rfl) ?_
      refine r_callI (As := [.ref (X.2.2 c1), .int (iz x3)]) (rest := [.int (iz x2)]) (rm := rmX5_basinStart) C hw (is5_s i0) (is5_l i0) cO5 tw3_183 tw3_163 tw3_164 tw1_5 tw3_165 hd_X5_basinStart rfl ⟨⟨rfl, rfl⟩, Nat.le_of_ble_eq_true rfl, Nat.le_of_ble_eq_true rfl⟩ hl.1 rfl (Nat.le_of_ble_eq_true rfl) dX5_withBasinAt_14 hf (fun o ho => c_X5_basinStart l X hinj hZ N S c0 c1 x3 i0 i1 o ho) (fun v14 S14 H locs hf hw => ?_)
      refine r_icmp_lt C (tgt := 32) dX5_withBasinAt_17 (by decide) hf (fun hf => ?_) (fun hf => ?_)
      · exact (w_X5_withBasinAt_32 l hinj hZ C out c0 c1 i0 i1 (f_X5_withBasinAt_2 c0 c1 N) ih N) x2 x3 S14 H locs ls hf hw (lv_sub hl [0, 1, 2, 3] rfl)
      · refine lv_iload_n C.1.1 C.1.2.1 dX5_withBasinAt_20 rfl (lv_at hl 2 rfl) ?_
        refine lv_aload_n C.1.1 C.1.2.1 dX5_withBasinAt_21 rfl (lv_at hl 0 rfl) ?_
        refine lv_aload_n C.1.1 C.1.2.1 dX5_withBasinAt_22 rfl (lv_at hl 1 rfl) ?_
        refine lv_iload_n C.1.1 C.1.2.1 dX5_withBasinAt_23 rfl (lv_at hl 3 rfl) ?_
        refine r_callI (As := [.ref (X.2.2 c1), .int (iz x3)]) (rest := [.int (iz x2)]) (rm := rmX5_basinEnd) C hw (is5_s i0) (is5_l i0) cO5 tw3_184 tw3_176 tw3_177 tw1_5 tw3_178 hd_X5_basinEnd rfl ⟨⟨rfl, rfl⟩, Nat.le_of_ble_eq_true rfl, Nat.le_of_ble_eq_true rfl⟩ hl.1 rfl (Nat.le_of_ble_eq_true rfl) dX5_withBasinAt_24 hf (fun o ho => c_X5_basinEnd l X hinj hZ N S14 c0 c1 x3 i0 i1 o ho) (fun v24 S24 H locs hf hw => ?_)
        refine r_icmp_gt C (tgt := 32) dX5_withBasinAt_27 (by decide) hf (fun hf => ?_) (fun hf => ?_)
        · exact (w_X5_withBasinAt_32 l hinj hZ C out c0 c1 i0 i1 (f_X5_withBasinAt_2 c0 c1 N) ih N) x2 x3 S24 H locs ls hf hw (lv_sub hl [0, 1, 2, 3] rfl)
        · refine lv_iload_n C.1.1 C.1.2.1 dX5_withBasinAt_30 rfl (lv_at hl 3 rfl) ?_
          exact r_retI C hw dX5_withBasinAt_31 hf
set_option maxRecDepth 100000 in
set_option maxHeartbeats 4000000 in
theorem c_X5_withBasinAt (l : Launch) (X : XT) (hinj : XInj X nC) (hZ : ZOK (Zc X)) (N : Nat) (S : S2) (c0 : Nat) (c1 : Nat) (a2 : Int) (i0 : Is5 c0) (i1 : Is0 c1) (out : Int × S2) (hf : f_X5_withBasinAt N S c0 c1 a2 = some out) : MI l X shC nC (Zc X) yX5_withBasinAt cX5_withBasinAt 4 (some .int) rmX5_withBasinAt [.ref (X.2.2 c0), .ref (X.2.2 c1), .int (iz a2)] S out := by
  refine met_I (own := RX5) (by decide) rfl hinj hZ (Nat.le_of_ble_eq_true rfl) (fun p e s m args below meth c C ls H locs hw hl => ?_)
  unfold f_X5_withBasinAt at hf
  have hl : lv_has ls 4 [(0, .ref (X.2.2 c0)), (1, .ref (X.2.2 c1)), (2, .int (iz a2))] := hl
  refine r_iconst (v := 0) C dX5_withBasinAt_0 ?_
  refine lv_istore_n (lv' := [(3, .int (iz 0)), (0, .ref (X.2.2 c0)), (1, .ref (X.2.2 c1)), (2, .int (iz a2))]) C.1.1 C.1.2.1 dX5_withBasinAt_1 rfl hl (by decide) rfl (fun ls hl => ?_)
  exact (w_X5_withBasinAt_2 l hinj hZ C out c0 c1 i0 i1 N) a2 0 S H locs ls hf hw (lv_sub hl [1, 2, 3, 0] rfl)
def f_X5_area_63 (c0 : Nat) (c1 : Nat) (k28 : Int → Int → Int → Int → S2 → Option (Int × S2)) (N : Nat) (x4 : Int) (x5 : Int) (x6 : Int) (x7 : Int) (S : S2) : Option (Int × S2) := k28 x4 x5 x6 (x7 + 1) S
def f_X5_area_28 (c0 : Nat) (c1 : Nat) : Nat → Int → Int → Int → Int → S2 → Option (Int × S2)
  | 0, _, _, _, _, _ => none
  | N + 1, x4, x5, x6, x7, S => cI x7 x4 (if x4 < x7 then rI x6 S else bI (f_X0_has N S c1 x7) fun v38 S38 => cI v38 0 (if v38 = 0 then (f_X5_area_63 c0 c1 (f_X5_area_28 c0 c1 N) N) x4 x5 x6 x7 S38 else aI S38 (c1 + 1) 48 x7 fun v53 => mxI 0 (v53 - x5) fun v57 => (f_X5_area_63 c0 c1 (f_X5_area_28 c0 c1 N) N) x4 x5 (x6 + v57) x7 S38))
def f_X5_area (N : Nat) (S : S2) (c0 : Nat) (c1 : Nat) (a2 : Int) : Option (Int × S2) := bI (f_X5_basinStart N S c0 c1 a2) fun v3 S3 => bI (f_X5_basinEnd N S3 c0 c1 a2) fun v10 S10 => bI (f_X5_deathOf N S10 c0 a2) fun v17 S17 => (f_X5_area_28 c0 c1 N) v10 v17 0 v3 S17
abbrev rmX5_area : Room := { frames := 3, cells := 0, slots := 0, locals := 71 }
theorem hd_X5_area : yX5_area.cls ≠ "java/lang/invoke/MethodHandle" ∧ yX5_area.cls ≠ "java/lang/invoke/VarHandle" ∧ (parseMethodDescriptor yX5_area.desc).map (fun d => d.parameters.length) = some 2 := by decide +kernel
set_option maxRecDepth 100000 in
set_option maxHeartbeats 4000000 in
theorem w_X5_area_63 {p : Program} (l : Launch) {e : Env} {s : State} {m : MethodId} {args : Array Value} {below : List Frame} {meth : Method} {c : Code} {X : XT} (hinj : XInj X nC) (hZ : ZOK (Zc X)) (C : CX p s m args meth c cX5_area 8 RX5 (some .int) X nC (Zc X)) (out : Int × S2) (c0 : Nat) (c1 : Nat) (i0 : Is5 c0) (i1 : Is0 c1) (k28 : Int → Int → Int → Int → S2 → Option (Int × S2)) (hk28 : ∀ (x4 : Int) (x5 : Int) (x6 : Int) (x7 : Int) (S : S2) (H : Heap) (locs : List Loc) (ls : Array Slot), k28 x4 x5 x6 x7 S = some out → WH X shC nC s S H locs → lv_has ls 8 [(1, .ref (X.2.2 c1)), (4, .int (iz x4)), (5, .int (iz x5)), (6, .int (iz x6)), (7, .int (iz x7))] → W p l e rmX5_area s m args below meth c H locs 0 0 (QI X shC nC s args below out) (F0 m 28 ls [])) : ∀ (N : Nat), ∀ (x4 : Int) (x5 : Int) (x6 : Int) (x7 : Int) (S : S2) (H : Heap) (locs : List Loc) (ls : Array Slot), f_X5_area_63 c0 c1 k28 N x4 x5 x6 x7 S = some out → WH X shC nC s S H locs → lv_has ls 8 [(1, .ref (X.2.2 c1)), (4, .int (iz x4)), (5, .int (iz x5)), (6, .int (iz x6)), (7, .int (iz x7))] → W p l e rmX5_area s m args below meth c H locs 0 0 (QI X shC nC s args below out) (F0 m 63 ls []) := by
  intro N x4 x5 x6 x7 S H locs ls hf hw hl
  unfold f_X5_area_63 at hf
  refine lv_iinc (v := iz (x7 + 1)) (lv' := [(7, .int (iz (x7 + 1))), (1, .ref (X.2.2 c1)), (4, .int (iz x4)), (5, .int (iz x5)), (6, .int (iz x6))]) C.1.1 C.1.2.1 dX5_area_63 hl (k := 4) rfl (iz_add _ _) (by decide) rfl (fun ls hl => ?_)
  refine lv_goto (tgt := 28) C.1.1 C.1.2.1 dX5_area_66 (by decide) ?_
  exact hk28 x4 x5 x6 (x7 + 1) S H locs ls hf hw (lv_sub hl [1, 2, 3, 4, 0] rfl)
set_option maxRecDepth 100000 in
set_option maxHeartbeats 4000000 in
theorem w_X5_area_28 {p : Program} (l : Launch) {e : Env} {s : State} {m : MethodId} {args : Array Value} {below : List Frame} {meth : Method} {c : Code} {X : XT} (hinj : XInj X nC) (hZ : ZOK (Zc X)) (C : CX p s m args meth c cX5_area 8 RX5 (some .int) X nC (Zc X)) (out : Int × S2) (c0 : Nat) (c1 : Nat) (i0 : Is5 c0) (i1 : Is0 c1) : ∀ (N : Nat), ∀ (x4 : Int) (x5 : Int) (x6 : Int) (x7 : Int) (S : S2) (H : Heap) (locs : List Loc) (ls : Array Slot), f_X5_area_28 c0 c1 N x4 x5 x6 x7 S = some out → WH X shC nC s S H locs → lv_has ls 8 [(1, .ref (X.2.2 c1)), (4, .int (iz x4)), (5, .int (iz x5)), (6, .int (iz x6)), (7, .int (iz x7))] → W p l e rmX5_area s m args below meth c H locs 0 0 (QI X shC nC s args below out) (F0 m 28 ls []) := by
  intro N
  induction N with
  | zero => intro x4 x5 x6 x7 S H locs ls hf hw hl; cases hf
  | succ N ih =>
    intro x4 x5 x6 x7 S H locs ls hf hw hl
    rw [f_X5_area_28.eq_2] at hf
    refine lv_iload C.1.1 C.1.2.1 dX5_area_28 (lv_at hl 4 rfl) ?_
    refine lv_iload C.1.1 C.1.2.1 dX5_area_30 (lv_at hl 1 rfl) ?_
    refine r_icmp_gt C (tgt := 69) dX5_area_32 (by decide) hf (fun hf => ?_) (fun hf => ?_)
    · refine lv_iload C.1.1 C.1.2.1 dX5_area_69 (lv_at hl 3 rfl) ?_
      exact r_retI C hw dX5_area_71 hf
    · refine lv_aload_n C.1.1 C.1.2.1 dX5_area_35 rfl (lv_at hl 0 rfl) ?_
      refine lv_iload C.1.1 C.1.2.1 dX5_area_36 (lv_at hl 4 rfl) ?_
      refine r_callI (As := [.int (iz x7)]) (rest := []) (rm := rmX0_has) C hw (is0_s i1) (is0_l i1) cO0 tw3_185 tw3_151 tw3_152 tw1_4 tw3_153 hd_X0_has rfl ⟨⟨rfl, rfl⟩, Nat.le_of_ble_eq_true rfl, Nat.le_of_ble_eq_true rfl⟩ hl.1 rfl (Nat.le_of_ble_eq_true rfl) dX5_area_38 hf (fun o ho => c_X0_has l X hinj hZ N S c1 x7 i1 o ho) (fun v38 S38 H locs hf hw => ?_)
      refine r_if_eq C (tgt := 63) dX5_area_41 (by decide) hf (fun hf => ?_) (fun hf => ?_)
      · exact (w_X5_area_63 l hinj hZ C out c0 c1 i0 i1 (f_X5_area_28 c0 c1 N) ih N) x4 x5 x6 x7 S38 H locs ls hf hw (lv_sub hl [0, 1, 2, 3, 4] rfl)
      · refine lv_iload C.1.1 C.1.2.1 dX5_area_44 (lv_at hl 3 rfl) ?_
        refine r_iconst (v := 0) C dX5_area_46 ?_
        refine lv_aload_n C.1.1 C.1.2.1 dX5_area_47 rfl (lv_at hl 0 rfl) ?_
        refine r_getR (k := 0) C hw (is0_s i1) (is0_l i1) cO0 rfl (by decide) tw1_86 rfl dX5_area_48 ?_
        refine lv_iload C.1.1 C.1.2.1 dX5_area_51 (lv_at hl 4 rfl) ?_
        refine r_iald C hw (is0_s1 i1) (is0_l1 i1) (Nat.le_of_ble_eq_true rfl) dX5_area_53 hf (fun v53 hf => ?_)
        refine lv_iload C.1.1 C.1.2.1 dX5_area_54 (lv_at hl 2 rfl) ?_
        refine r_isub C dX5_area_56 ?_
        refine r_max C tw3_85 tw3_86 tw1_18 tw3_87 hl.1 (Nat.le_of_ble_eq_true rfl) (Nat.le_of_ble_eq_true rfl) dX5_area_57 hf (fun v57 hf => ?_)
        refine r_iadd C dX5_area_60 ?_
        refine lv_istore (lv' := [(6, .int (iz (x6 + v57))), (1, .ref (X.2.2 c1)), (4, .int (iz x4)), (5, .int (iz x5)), (7, .int (iz x7))]) C.1.1 C.1.2.1 dX5_area_61 hl (by decide) rfl (fun ls hl => ?_)
        exact (w_X5_area_63 l hinj hZ C out c0 c1 i0 i1 (f_X5_area_28 c0 c1 N) ih N) x4 x5 (x6 + v57) x7 S38 H locs ls hf hw (lv_sub hl [1, 2, 3, 0, 4] rfl)
set_option maxRecDepth 100000 in
set_option maxHeartbeats 4000000 in
theorem c_X5_area (l : Launch) (X : XT) (hinj : XInj X nC) (hZ : ZOK (Zc X)) (N : Nat) (S : S2) (c0 : Nat) (c1 : Nat) (a2 : Int) (i0 : Is5 c0) (i1 : Is0 c1) (out : Int × S2) (hf : f_X5_area N S c0 c1 a2 = some out) : MI l X shC nC (Zc X) yX5_area cX5_area 8 (some .int) rmX5_area [.ref (X.2.2 c0), .ref (X.2.2 c1), .int (iz a2)] S out := by
  refine met_I (own := RX5) (by decide) rfl hinj hZ (Nat.le_of_ble_eq_true rfl) (fun p e s m args below meth c C ls H locs hw hl => ?_)
  unfold f_X5_area at hf
  have hl : lv_has ls 8 [(0, .ref (X.2.2 c0)), (1, .ref (X.2.2 c1)), (2, .int (iz a2))] := hl
  refine lv_aload_n C.1.1 C.1.2.1 dX5_area_0 rfl (lv_at hl 0 rfl) ?_
  refine lv_aload_n C.1.1 C.1.2.1 dX5_area_1 rfl (lv_at hl 1 rfl) ?_
  refine lv_iload_n C.1.1 C.1.2.1 dX5_area_2 rfl (lv_at hl 2 rfl) ?_
  refine r_callI (As := [.ref (X.2.2 c1), .int (iz a2)]) (rest := []) (rm := rmX5_basinStart) C hw (is5_s i0) (is5_l i0) cO5 tw3_183 tw3_163 tw3_164 tw1_5 tw3_165 hd_X5_basinStart rfl ⟨⟨rfl, rfl⟩, Nat.le_of_ble_eq_true rfl, Nat.le_of_ble_eq_true rfl⟩ hl.1 rfl (Nat.le_of_ble_eq_true rfl) dX5_area_3 hf (fun o ho => c_X5_basinStart l X hinj hZ N S c0 c1 a2 i0 i1 o ho) (fun v3 S3 H locs hf hw => ?_)
  refine lv_istore_n (lv' := [(3, .int (iz v3)), (0, .ref (X.2.2 c0)), (1, .ref (X.2.2 c1)), (2, .int (iz a2))]) C.1.1 C.1.2.1 dX5_area_6 rfl hl (by decide) rfl (fun ls hl => ?_)
  refine lv_aload_n C.1.1 C.1.2.1 dX5_area_7 rfl (lv_at hl 1 rfl) ?_
  refine lv_aload_n C.1.1 C.1.2.1 dX5_area_8 rfl (lv_at hl 2 rfl) ?_
  refine lv_iload_n C.1.1 C.1.2.1 dX5_area_9 rfl (lv_at hl 3 rfl) ?_
  refine r_callI (As := [.ref (X.2.2 c1), .int (iz a2)]) (rest := []) (rm := rmX5_basinEnd) C hw (is5_s i0) (is5_l i0) cO5 tw3_184 tw3_176 tw3_177 tw1_5 tw3_178 hd_X5_basinEnd rfl ⟨⟨rfl, rfl⟩, Nat.le_of_ble_eq_true rfl, Nat.le_of_ble_eq_true rfl⟩ hl.1 rfl (Nat.le_of_ble_eq_true rfl) dX5_area_10 hf (fun o ho => c_X5_basinEnd l X hinj hZ N S3 c0 c1 a2 i0 i1 o ho) (fun v10 S10 H locs hf hw => ?_)
  refine lv_istore (lv' := [(4, .int (iz v10)), (3, .int (iz v3)), (0, .ref (X.2.2 c0)), (1, .ref (X.2.2 c1)), (2, .int (iz a2))]) C.1.1 C.1.2.1 dX5_area_13 hl (by decide) rfl (fun ls hl => ?_)
  refine lv_aload_n C.1.1 C.1.2.1 dX5_area_15 rfl (lv_at hl 2 rfl) ?_
  refine lv_iload_n C.1.1 C.1.2.1 dX5_area_16 rfl (lv_at hl 4 rfl) ?_
  refine r_callI (As := [.int (iz a2)]) (rest := []) (rm := rmX5_deathOf) C hw (is5_s i0) (is5_l i0) cO5 tw3_108 tw3_109 tw3_110 tw1_5 tw3_111 hd_X5_deathOf rfl ⟨⟨rfl, rfl⟩, Nat.le_of_ble_eq_true rfl, Nat.le_of_ble_eq_true rfl⟩ hl.1 rfl (Nat.le_of_ble_eq_true rfl) dX5_area_17 hf (fun o ho => c_X5_deathOf l X hinj hZ N S10 c0 a2 i0 o ho) (fun v17 S17 H locs hf hw => ?_)
  refine lv_istore (lv' := [(5, .int (iz v17)), (4, .int (iz v10)), (3, .int (iz v3)), (0, .ref (X.2.2 c0)), (1, .ref (X.2.2 c1)), (2, .int (iz a2))]) C.1.1 C.1.2.1 dX5_area_20 hl (by decide) rfl (fun ls hl => ?_)
  refine r_iconst (v := 0) C dX5_area_22 ?_
  refine lv_istore (lv' := [(6, .int (iz 0)), (5, .int (iz v17)), (4, .int (iz v10)), (3, .int (iz v3)), (0, .ref (X.2.2 c0)), (1, .ref (X.2.2 c1)), (2, .int (iz a2))]) C.1.1 C.1.2.1 dX5_area_23 hl (by decide) rfl (fun ls hl => ?_)
  refine lv_iload_n C.1.1 C.1.2.1 dX5_area_25 rfl (lv_at hl 3 rfl) ?_
  refine lv_istore (lv' := [(7, .int (iz v3)), (6, .int (iz 0)), (5, .int (iz v17)), (4, .int (iz v10)), (3, .int (iz v3)), (0, .ref (X.2.2 c0)), (1, .ref (X.2.2 c1)), (2, .int (iz a2))]) C.1.1 C.1.2.1 dX5_area_26 hl (by decide) rfl (fun ls hl => ?_)
  exact (w_X5_area_28 l hinj hZ C out c0 c1 i0 i1 N) v10 v17 0 v3 S17 H locs ls hf hw (lv_sub hl [6, 3, 2, 1, 0] rfl)
def f_X5_width (N : Nat) (S : S2) (c0 : Nat) (c1 : Nat) (a2 : Int) : Option (Int × S2) := bI (f_X5_heightOf N S c0 a2) fun v2 S2 => bI (f_X5_persistenceOf N S2 c0 a2) fun v7 S7 => dvI v7 2 fun v11 => bI (f_X5_placeOf N S7 c0 a2) fun v16 S16 => bI (f_X0_runEnd N S16 c1 v16 (v2 - v11)) fun v25 S25 => bI (f_X0_runStart N S25 c1 v16 (v2 - v11)) fun v32 S32 => rI ((v25 - v32) + 1) S32
abbrev rmX5_width : Room := { frames := 2, cells := 0, slots := 0, locals := 42 }
theorem hd_X5_width : yX5_width.cls ≠ "java/lang/invoke/MethodHandle" ∧ yX5_width.cls ≠ "java/lang/invoke/VarHandle" ∧ (parseMethodDescriptor yX5_width.desc).map (fun d => d.parameters.length) = some 2 := by decide +kernel
set_option maxRecDepth 100000 in
set_option maxHeartbeats 4000000 in
theorem c_X5_width (l : Launch) (X : XT) (hinj : XInj X nC) (hZ : ZOK (Zc X)) (N : Nat) (S : S2) (c0 : Nat) (c1 : Nat) (a2 : Int) (i0 : Is5 c0) (i1 : Is0 c1) (out : Int × S2) (hf : f_X5_width N S c0 c1 a2 = some out) : MI l X shC nC (Zc X) yX5_width cX5_width 5 (some .int) rmX5_width [.ref (X.2.2 c0), .ref (X.2.2 c1), .int (iz a2)] S out := by
  refine met_I (own := RX5) (by decide) rfl hinj hZ (Nat.le_of_ble_eq_true rfl) (fun p e s m args below meth c C ls H locs hw hl => ?_)
  unfold f_X5_width at hf
  have hl : lv_has ls 5 [(0, .ref (X.2.2 c0)), (1, .ref (X.2.2 c1)), (2, .int (iz a2))] := hl
  refine lv_aload_n C.1.1 C.1.2.1 dX5_width_0 rfl (lv_at hl 0 rfl) ?_
  refine lv_iload_n C.1.1 C.1.2.1 dX5_width_1 rfl (lv_at hl 2 rfl) ?_
  refine r_callI (As := [.int (iz a2)]) (rest := []) (rm := rmX5_heightOf) C hw (is5_s i0) (is5_l i0) cO5 tw3_104 tw3_105 tw3_106 tw1_5 tw3_107 hd_X5_heightOf rfl ⟨⟨rfl, rfl⟩, Nat.le_of_ble_eq_true rfl, Nat.le_of_ble_eq_true rfl⟩ hl.1 rfl (Nat.le_of_ble_eq_true rfl) dX5_width_2 hf (fun o ho => c_X5_heightOf l X hinj hZ N S c0 a2 i0 o ho) (fun v2 S2 H locs hf hw => ?_)
  refine lv_aload_n C.1.1 C.1.2.1 dX5_width_5 rfl (lv_at hl 0 rfl) ?_
  refine lv_iload_n C.1.1 C.1.2.1 dX5_width_6 rfl (lv_at hl 2 rfl) ?_
  refine r_callI (As := [.int (iz a2)]) (rest := [.int (iz v2)]) (rm := rmX5_persistenceOf) C hw (is5_s i0) (is5_l i0) cO5 tw3_100 tw3_101 tw3_102 tw1_5 tw3_103 hd_X5_persistenceOf rfl ⟨⟨rfl, rfl⟩, Nat.le_of_ble_eq_true rfl, Nat.le_of_ble_eq_true rfl⟩ hl.1 rfl (Nat.le_of_ble_eq_true rfl) dX5_width_7 hf (fun o ho => c_X5_persistenceOf l X hinj hZ N S2 c0 a2 i0 o ho) (fun v7 S7 H locs hf hw => ?_)
  refine r_iconst (v := 2) C dX5_width_10 ?_
  refine r_idiv C dX5_width_11 hf (fun v11 hf => ?_)
  refine r_isub C dX5_width_12 ?_
  refine lv_istore_n (lv' := [(3, .int (iz (v2 - v11))), (0, .ref (X.2.2 c0)), (1, .ref (X.2.2 c1)), (2, .int (iz a2))]) C.1.1 C.1.2.1 dX5_width_13 rfl hl (by decide) rfl (fun ls hl => ?_)
  refine lv_aload_n C.1.1 C.1.2.1 dX5_width_14 rfl (lv_at hl 1 rfl) ?_
  refine lv_iload_n C.1.1 C.1.2.1 dX5_width_15 rfl (lv_at hl 3 rfl) ?_
  refine r_callI (As := [.int (iz a2)]) (rest := []) (rm := rmX5_placeOf) C hw (is5_s i0) (is5_l i0) cO5 tw3_166 tw3_167 tw3_168 tw1_5 tw3_169 hd_X5_placeOf rfl ⟨⟨rfl, rfl⟩, Nat.le_of_ble_eq_true rfl, Nat.le_of_ble_eq_true rfl⟩ hl.1 rfl (Nat.le_of_ble_eq_true rfl) dX5_width_16 hf (fun o ho => c_X5_placeOf l X hinj hZ N S7 c0 a2 i0 o ho) (fun v16 S16 H locs hf hw => ?_)
  refine lv_istore (lv' := [(4, .int (iz v16)), (3, .int (iz (v2 - v11))), (0, .ref (X.2.2 c0)), (1, .ref (X.2.2 c1)), (2, .int (iz a2))]) C.1.1 C.1.2.1 dX5_width_19 hl (by decide) rfl (fun ls hl => ?_)
  refine lv_aload_n C.1.1 C.1.2.1 dX5_width_21 rfl (lv_at hl 3 rfl) ?_
  refine lv_iload C.1.1 C.1.2.1 dX5_width_22 (lv_at hl 0 rfl) ?_
  refine lv_iload_n C.1.1 C.1.2.1 dX5_width_24 rfl (lv_at hl 1 rfl) ?_
  refine r_callI (As := [.int (iz v16), .int (iz (v2 - v11))]) (rest := []) (rm := rmX0_runEnd) C hw (is0_s i1) (is0_l i1) cO0 tw3_190 tw3_191 tw3_192 tw1_4 tw3_193 hd_X0_runEnd rfl ⟨⟨rfl, rfl⟩, Nat.le_of_ble_eq_true rfl, Nat.le_of_ble_eq_true rfl⟩ hl.1 rfl (Nat.le_of_ble_eq_true rfl) dX5_width_25 hf (fun o ho => c_X0_runEnd l X hinj hZ N S16 c1 v16 (v2 - v11) i1 o ho) (fun v25 S25 H locs hf hw => ?_)
  refine lv_aload_n C.1.1 C.1.2.1 dX5_width_28 rfl (lv_at hl 3 rfl) ?_
  refine lv_iload C.1.1 C.1.2.1 dX5_width_29 (lv_at hl 0 rfl) ?_
  refine lv_iload_n C.1.1 C.1.2.1 dX5_width_31 rfl (lv_at hl 1 rfl) ?_
  refine r_callI (As := [.int (iz v16), .int (iz (v2 - v11))]) (rest := [.int (iz v25)]) (rm := rmX0_runStart) C hw (is0_s i1) (is0_l i1) cO0 tw3_194 tw3_195 tw3_196 tw1_4 tw3_197 hd_X0_runStart rfl ⟨⟨rfl, rfl⟩, Nat.le_of_ble_eq_true rfl, Nat.le_of_ble_eq_true rfl⟩ hl.1 rfl (Nat.le_of_ble_eq_true rfl) dX5_width_32 hf (fun o ho => c_X0_runStart l X hinj hZ N S25 c1 v16 (v2 - v11) i1 o ho) (fun v32 S32 H locs hf hw => ?_)
  refine r_isub C dX5_width_35 ?_
  refine r_iconst (v := 1) C dX5_width_36 ?_
  refine r_iadd C dX5_width_37 ?_
  exact r_retI C hw dX5_width_38 hf
def f_X5_flatLevels_109 (c0 : Nat) (c1 : Nat) (N : Nat) (S : S2) : Option (S2) := rV S
def f_X5_flatLevels_103 (c0 : Nat) (c1 : Nat) (k20 : Int → S2 → Option (S2)) (N : Nat) (x2 : Int) (S : S2) : Option (S2) := k20 (x2 + 1) S
def f_X5_flatLevels_72 (c0 : Nat) (c1 : Nat) (k103 : Int → S2 → Option (S2)) : Nat → Int → Int → Int → Int → S2 → Option (S2)
  | 0, _, _, _, _, _ => none
  | N + 1, x2, x3, x5, x6, S => cI x6 x5 (if x5 < x6 then k103 x2 S else aI S (c0 + 13) 48 x6 fun v91 => mnI v91 x3 fun v93 => sI S (c0 + 13) 48 x6 v93 fun S96 => (f_X5_flatLevels_72 c0 c1 k103 N) x2 x3 x5 (x6 + 1) S96)
def f_X5_flatLevels_20 (c0 : Nat) (c1 : Nat) (k109 : S2 → Option (S2)) : Nat → Int → S2 → Option (S2)
  | 0, _, _ => none
  | N + 1, x2, S => gI S c0 0 fun v22 => cI x2 v22 (if v22 ≤ x2 then k109 S else bI (f_X5_deathOf N S c0 x2) fun v30 S30 => bI (f_X5_placeOf N S30 c0 x2) fun v36 S36 => bI (f_X5_heightOf N S36 c0 x2) fun v43 S43 => cI v43 v30 (if v43 ≤ v30 then (f_X5_flatLevels_103 c0 c1 (f_X5_flatLevels_20 c0 c1 k109 N) N) x2 S43 else bI (f_X0_runEnd N S43 c1 v36 (v30 + 1)) fun v56 S56 => bI (f_X0_runStart N S56 c1 v36 (v30 + 1)) fun v67 S67 => (f_X5_flatLevels_72 c0 c1 (f_X5_flatLevels_103 c0 c1 (f_X5_flatLevels_20 c0 c1 k109 N) N) N) x2 v30 v56 v67 S67))
def f_X5_flatLevels (N : Nat) (S : S2) (c0 : Nat) (c1 : Nat) : Option (S2) := cpI S (c1 + 1) (c0 + 13) 48 48 0 0 48 fun S12 => gI S12 c0 1 fun v16 => (f_X5_flatLevels_20 c0 c1 (f_X5_flatLevels_109 c0 c1 N) N) v16 S12
abbrev rmX5_flatLevels : Room := { frames := 1, cells := 0, slots := 0, locals := 26 }
theorem hd_X5_flatLevels : yX5_flatLevels.cls ≠ "java/lang/invoke/MethodHandle" ∧ yX5_flatLevels.cls ≠ "java/lang/invoke/VarHandle" ∧ (parseMethodDescriptor yX5_flatLevels.desc).map (fun d => d.parameters.length) = some 1 := by decide +kernel
set_option maxRecDepth 100000 in
set_option maxHeartbeats 4000000 in
theorem w_X5_flatLevels_109 {p : Program} (l : Launch) {e : Env} {s : State} {m : MethodId} {args : Array Value} {below : List Frame} {meth : Method} {c : Code} {X : XT} (hinj : XInj X nC) (hZ : ZOK (Zc X)) (C : CX p s m args meth c cX5_flatLevels 7 RX5 (some (.array .int)) X nC (Zc X)) (out : S2) (c0 : Nat) (c1 : Nat) (i0 : Is5 c0) (i1 : Is0 c1) : ∀ (N : Nat), ∀ (S : S2) (H : Heap) (locs : List Loc) (ls : Array Slot), f_X5_flatLevels_109 c0 c1 N S = some out → WH X shC nC s S H locs → lv_has ls 7 [(0, .ref (X.2.2 c0))] → W p l e rmX5_flatLevels s m args below meth c H locs 0 0 (QR X shC nC s args below (X.2.2 (c0 + 13)) out) (F0 m 109 ls []) := by
  intro N S H locs ls hf hw hl
  unfold f_X5_flatLevels_109 at hf
  refine lv_aload_n C.1.1 C.1.2.1 dX5_flatLevels_109 rfl (lv_at hl 0 rfl) ?_
  refine r_getR (k := 14) C hw (is5_s i0) (is5_l i0) cO5 rfl (by decide) tw1_128 rfl dX5_flatLevels_110 ?_
  exact r_retR C (by first | exact Or.inr ⟨_, rfl⟩ | exact Or.inl ⟨_, rfl⟩) hw dX5_flatLevels_113 hf
set_option maxRecDepth 100000 in
set_option maxHeartbeats 4000000 in
theorem w_X5_flatLevels_103 {p : Program} (l : Launch) {e : Env} {s : State} {m : MethodId} {args : Array Value} {below : List Frame} {meth : Method} {c : Code} {X : XT} (hinj : XInj X nC) (hZ : ZOK (Zc X)) (C : CX p s m args meth c cX5_flatLevels 7 RX5 (some (.array .int)) X nC (Zc X)) (out : S2) (c0 : Nat) (c1 : Nat) (i0 : Is5 c0) (i1 : Is0 c1) (k20 : Int → S2 → Option (S2)) (hk20 : ∀ (x2 : Int) (S : S2) (H : Heap) (locs : List Loc) (ls : Array Slot), k20 x2 S = some out → WH X shC nC s S H locs → lv_has ls 7 [(0, .ref (X.2.2 c0)), (1, .ref (X.2.2 c1)), (2, .int (iz x2))] → W p l e rmX5_flatLevels s m args below meth c H locs 0 0 (QR X shC nC s args below (X.2.2 (c0 + 13)) out) (F0 m 20 ls [])) : ∀ (N : Nat), ∀ (x2 : Int) (S : S2) (H : Heap) (locs : List Loc) (ls : Array Slot), f_X5_flatLevels_103 c0 c1 k20 N x2 S = some out → WH X shC nC s S H locs → lv_has ls 7 [(0, .ref (X.2.2 c0)), (1, .ref (X.2.2 c1)), (2, .int (iz x2))] → W p l e rmX5_flatLevels s m args below meth c H locs 0 0 (QR X shC nC s args below (X.2.2 (c0 + 13)) out) (F0 m 103 ls []) := by
  intro N x2 S H locs ls hf hw hl
  unfold f_X5_flatLevels_103 at hf
  refine lv_iinc (v := iz (x2 + 1)) (lv' := [(2, .int (iz (x2 + 1))), (0, .ref (X.2.2 c0)), (1, .ref (X.2.2 c1))]) C.1.1 C.1.2.1 dX5_flatLevels_103 hl (k := 2) rfl (iz_add _ _) (by decide) rfl (fun ls hl => ?_)
  refine lv_goto (tgt := 20) C.1.1 C.1.2.1 dX5_flatLevels_106 (by decide) ?_
  exact hk20 (x2 + 1) S H locs ls hf hw (lv_sub hl [1, 2, 0] rfl)
set_option maxRecDepth 100000 in
set_option maxHeartbeats 4000000 in
theorem w_X5_flatLevels_72 {p : Program} (l : Launch) {e : Env} {s : State} {m : MethodId} {args : Array Value} {below : List Frame} {meth : Method} {c : Code} {X : XT} (hinj : XInj X nC) (hZ : ZOK (Zc X)) (C : CX p s m args meth c cX5_flatLevels 7 RX5 (some (.array .int)) X nC (Zc X)) (out : S2) (c0 : Nat) (c1 : Nat) (i0 : Is5 c0) (i1 : Is0 c1) (k103 : Int → S2 → Option (S2)) (hk103 : ∀ (x2 : Int) (S : S2) (H : Heap) (locs : List Loc) (ls : Array Slot), k103 x2 S = some out → WH X shC nC s S H locs → lv_has ls 7 [(0, .ref (X.2.2 c0)), (1, .ref (X.2.2 c1)), (2, .int (iz x2))] → W p l e rmX5_flatLevels s m args below meth c H locs 0 0 (QR X shC nC s args below (X.2.2 (c0 + 13)) out) (F0 m 103 ls [])) : ∀ (N : Nat), ∀ (x2 : Int) (x3 : Int) (x5 : Int) (x6 : Int) (S : S2) (H : Heap) (locs : List Loc) (ls : Array Slot), f_X5_flatLevels_72 c0 c1 k103 N x2 x3 x5 x6 S = some out → WH X shC nC s S H locs → lv_has ls 7 [(0, .ref (X.2.2 c0)), (1, .ref (X.2.2 c1)), (2, .int (iz x2)), (3, .int (iz x3)), (5, .int (iz x5)), (6, .int (iz x6))] → W p l e rmX5_flatLevels s m args below meth c H locs 0 0 (QR X shC nC s args below (X.2.2 (c0 + 13)) out) (F0 m 72 ls []) := by
  intro N
  induction N with
  | zero => intro x2 x3 x5 x6 S H locs ls hf hw hl; cases hf
  | succ N ih =>
    intro x2 x3 x5 x6 S H locs ls hf hw hl
    rw [f_X5_flatLevels_72.eq_2] at hf
    refine lv_iload C.1.1 C.1.2.1 dX5_flatLevels_72 (lv_at hl 5 rfl) ?_
    refine lv_iload C.1.1 C.1.2.1 dX5_flatLevels_74 (lv_at hl 4 rfl) ?_
    refine r_icmp_gt C (tgt := 103) dX5_flatLevels_76 (by decide) hf (fun hf => ?_) (fun hf => ?_)
    · exact hk103 x2 S H locs ls hf hw (lv_sub hl [0, 1, 2] rfl)
    · refine lv_aload_n C.1.1 C.1.2.1 dX5_flatLevels_79 rfl (lv_at hl 0 rfl) ?_
      refine r_getR (k := 14) C hw (is5_s i0) (is5_l i0) cO5 rfl (by decide) tw1_128 rfl dX5_flatLevels_80 ?_
      refine lv_iload C.1.1 C.1.2.1 dX5_flatLevels_83 (lv_at hl 5 rfl) ?_
      refine lv_aload_n C.1.1 C.1.2.1 dX5_flatLevels_85 rfl (lv_at hl 0 rfl) ?_
      refine r_getR (k := 14) C hw (is5_s i0) (is5_l i0) cO5 rfl (by decide) tw1_128 rfl dX5_flatLevels_86 ?_
      refine lv_iload C.1.1 C.1.2.1 dX5_flatLevels_89 (lv_at hl 5 rfl) ?_
      refine r_iald C hw (is5_s13 i0) (is5_l13 i0) (Nat.le_of_ble_eq_true rfl) dX5_flatLevels_91 hf (fun v91 hf => ?_)
      refine lv_iload_n C.1.1 C.1.2.1 dX5_flatLevels_92 rfl (lv_at hl 3 rfl) ?_
      refine r_min C tw3_82 tw3_83 tw1_18 tw3_84 hl.1 (Nat.le_of_ble_eq_true rfl) (Nat.le_of_ble_eq_true rfl) dX5_flatLevels_93 hf (fun v93 hf => ?_)
      refine r_iast C hw (is5_s13 i0) (is5_l13 i0) (Nat.le_of_ble_eq_true rfl) dX5_flatLevels_96 hf (fun S96 H locs hf hw => ?_)
      refine lv_iinc (v := iz (x6 + 1)) (lv' := [(6, .int (iz (x6 + 1))), (0, .ref (X.2.2 c0)), (1, .ref (X.2.2 c1)), (2, .int (iz x2)), (3, .int (iz x3)), (5, .int (iz x5))]) C.1.1 C.1.2.1 dX5_flatLevels_97 hl (k := 5) rfl (iz_add _ _) (by decide) rfl (fun ls hl => ?_)
      refine lv_goto (tgt := 72) C.1.1 C.1.2.1 dX5_flatLevels_100 (by decide) ?_
      exact ih x2 x3 x5 (x6 + 1) S96 H locs ls hf hw (lv_sub hl [1, 2, 3, 4, 5, 0] rfl)
set_option maxRecDepth 100000 in
set_option maxHeartbeats 4000000 in
theorem w_X5_flatLevels_20 {p : Program} (l : Launch) {e : Env} {s : State} {m : MethodId} {args : Array Value} {below : List Frame} {meth : Method} {c : Code} {X : XT} (hinj : XInj X nC) (hZ : ZOK (Zc X)) (C : CX p s m args meth c cX5_flatLevels 7 RX5 (some (.array .int)) X nC (Zc X)) (out : S2) (c0 : Nat) (c1 : Nat) (i0 : Is5 c0) (i1 : Is0 c1) (k109 : S2 → Option (S2)) (hk109 : ∀ (S : S2) (H : Heap) (locs : List Loc) (ls : Array Slot), k109 S = some out → WH X shC nC s S H locs → lv_has ls 7 [(0, .ref (X.2.2 c0))] → W p l e rmX5_flatLevels s m args below meth c H locs 0 0 (QR X shC nC s args below (X.2.2 (c0 + 13)) out) (F0 m 109 ls [])) : ∀ (N : Nat), ∀ (x2 : Int) (S : S2) (H : Heap) (locs : List Loc) (ls : Array Slot), f_X5_flatLevels_20 c0 c1 k109 N x2 S = some out → WH X shC nC s S H locs → lv_has ls 7 [(0, .ref (X.2.2 c0)), (1, .ref (X.2.2 c1)), (2, .int (iz x2))] → W p l e rmX5_flatLevels s m args below meth c H locs 0 0 (QR X shC nC s args below (X.2.2 (c0 + 13)) out) (F0 m 20 ls []) := by
  intro N
  induction N with
  | zero => intro x2 S H locs ls hf hw hl; cases hf
  | succ N ih =>
    intro x2 S H locs ls hf hw hl
    rw [f_X5_flatLevels_20.eq_2] at hf
    refine lv_iload_n C.1.1 C.1.2.1 dX5_flatLevels_20 rfl (lv_at hl 2 rfl) ?_
    refine lv_aload_n C.1.1 C.1.2.1 dX5_flatLevels_21 rfl (lv_at hl 0 rfl) ?_
    refine r_getI (k := 0) C hw (is5_s i0) (is5_l i0) cO5 rfl (by decide) tw1_111 rfl dX5_flatLevels_22 hf (fun v22 hf => ?_)
    refine r_icmp_ge C (tgt := 109) dX5_flatLevels_25 (by decide) hf (fun hf => ?_) (fun hf => ?_)
    · exact hk109 S H locs ls hf hw (lv_sub hl [0] rfl)
    · refine lv_aload_n C.1.1 C.1.2.1 dX5_flatLevels_28 rfl (lv_at hl 0 rfl) ?_
      refine lv_iload_n C.1.1 C.1.2.1 dX5_flatLevels_29 rfl (lv_at hl 2 rfl) ?_
      refine r_callI (As := [.int (iz x2)]) (rest := []) (rm := rmX5_deathOf) C hw (is5_s i0) (is5_l i0) cO5 tw3_108 tw3_109 tw3_110 tw1_5 tw3_111 hd_X5_deathOf rfl ⟨⟨rfl, rfl⟩, Nat.le_of_ble_eq_true rfl, Nat.le_of_ble_eq_true rfl⟩ hl.1 rfl (Nat.le_of_ble_eq_true rfl) dX5_flatLevels_30 hf (fun o ho => c_X5_deathOf l X hinj hZ N S c0 x2 i0 o ho) (fun v30 S30 H locs hf hw => ?_)
      refine lv_istore_n (lv' := [(3, .int (iz v30)), (0, .ref (X.2.2 c0)), (1, .ref (X.2.2 c1)), (2, .int (iz x2))]) C.1.1 C.1.2.1 dX5_flatLevels_33 rfl hl (by decide) rfl (fun ls hl => ?_)
      refine lv_aload_n C.1.1 C.1.2.1 dX5_flatLevels_34 rfl (lv_at hl 1 rfl) ?_
      refine lv_iload_n C.1.1 C.1.2.1 dX5_flatLevels_35 rfl (lv_at hl 3 rfl) ?_
      refine r_callI (As := [.int (iz x2)]) (rest := []) (rm := rmX5_placeOf) C hw (is5_s i0) (is5_l i0) cO5 tw3_166 tw3_167 tw3_168 tw1_5 tw3_169 hd_X5_placeOf rfl ⟨⟨rfl, rfl⟩, Nat.le_of_ble_eq_true rfl, Nat.le_of_ble_eq_true rfl⟩ hl.1 rfl (Nat.le_of_ble_eq_true rfl) dX5_flatLevels_36 hf (fun o ho => c_X5_placeOf l X hinj hZ N S30 c0 x2 i0 o ho) (fun v36 S36 H locs hf hw => ?_)
      refine lv_istore (lv' := [(4, .int (iz v36)), (3, .int (iz v30)), (0, .ref (X.2.2 c0)), (1, .ref (X.2.2 c1)), (2, .int (iz x2))]) C.1.1 C.1.2.1 dX5_flatLevels_39 hl (by decide) rfl (fun ls hl => ?_)
      refine lv_aload_n C.1.1 C.1.2.1 dX5_flatLevels_41 rfl (lv_at hl 2 rfl) ?_
      refine lv_iload_n C.1.1 C.1.2.1 dX5_flatLevels_42 rfl (lv_at hl 4 rfl) ?_
      refine r_callI (As := [.int (iz x2)]) (rest := []) (rm := rmX5_heightOf) C hw (is5_s i0) (is5_l i0) cO5 tw3_104 tw3_105 tw3_106 tw1_5 tw3_107 hd_X5_heightOf rfl ⟨⟨rfl, rfl⟩, Nat.le_of_ble_eq_true rfl, Nat.le_of_ble_eq_true rfl⟩ hl.1 rfl (Nat.le_of_ble_eq_true rfl) dX5_flatLevels_43 hf (fun o ho => c_X5_heightOf l X hinj hZ N S36 c0 x2 i0 o ho) (fun v43 S43 H locs hf hw => ?_)
      refine lv_iload_n C.1.1 C.1.2.1 dX5_flatLevels_46 rfl (lv_at hl 1 rfl) ?_
      refine r_icmp_le C (tgt := 103) dX5_flatLevels_47 (by decide) hf (fun hf => ?_) (fun hf => ?_)
      · exact (w_X5_flatLevels_103 l hinj hZ C out c0 c1 i0 i1 (f_X5_flatLevels_20 c0 c1 k109 N) ih N) x2 S43 H locs ls hf hw (lv_sub hl [2, 3, 4] rfl)
      · refine lv_aload_n C.1.1 C.1.2.1 dX5_flatLevels_50 rfl (lv_at hl 3 rfl) ?_
        refine lv_iload C.1.1 C.1.2.1 dX5_flatLevels_51 (lv_at hl 0 rfl) ?_
        refine lv_iload_n C.1.1 C.1.2.1 dX5_flatLevels_53 rfl (lv_at hl 1 rfl) ?_
        refine r_iconst (v := 1) C dX5_flatLevels_54 ?_
        refine r_iadd C dX5_flatLevels_55 ?_
        refine r_callI (As := [.int (iz v36), .int (iz (v30 + 1))]) (rest := []) (rm := rmX0_runEnd) C hw (is0_s i1) (is0_l i1) cO0 tw3_190 tw3_191 tw3_192 tw1_4 tw3_193 hd_X0_runEnd rfl ⟨⟨rfl, rfl⟩, Nat.le_of_ble_eq_true rfl, Nat.le_of_ble_eq_true rfl⟩ hl.1 rfl (Nat.le_of_ble_eq_true rfl) dX5_flatLevels_56 hf (fun o ho => c_X0_runEnd l X hinj hZ N S43 c1 v36 (v30 + 1) i1 o ho) (fun v56 S56 H locs hf hw => ?_)
        refine lv_istore (lv' := [(5, .int (iz v56)), (4, .int (iz v36)), (3, .int (iz v30)), (0, .ref (X.2.2 c0)), (1, .ref (X.2.2 c1)), (2, .int (iz x2))]) C.1.1 C.1.2.1 dX5_flatLevels_59 hl (by decide) rfl (fun ls hl => ?_)
        refine lv_aload_n C.1.1 C.1.2.1 dX5_flatLevels_61 rfl (lv_at hl 4 rfl) ?_
        refine lv_iload C.1.1 C.1.2.1 dX5_flatLevels_62 (lv_at hl 1 rfl) ?_
        refine lv_iload_n C.1.1 C.1.2.1 dX5_flatLevels_64 rfl (lv_at hl 2 rfl) ?_
        refine r_iconst (v := 1) C dX5_flatLevels_65 ?_
        refine r_iadd C dX5_flatLevels_66 ?_
        refine r_callI (As := [.int (iz v36), .int (iz (v30 + 1))]) (rest := []) (rm := rmX0_runStart) C hw (is0_s i1) (is0_l i1) cO0 tw3_194 tw3_195 tw3_196 tw1_4 tw3_197 hd_X0_runStart rfl ⟨⟨rfl, rfl⟩, Nat.le_of_ble_eq_true rfl, Nat.le_of_ble_eq_true rfl⟩ hl.1 rfl (Nat.le_of_ble_eq_true rfl) dX5_flatLevels_67 hf (fun o ho => c_X0_runStart l X hinj hZ N S56 c1 v36 (v30 + 1) i1 o ho) (fun v67 S67 H locs hf hw => ?_)
        refine lv_istore (lv' := [(6, .int (iz v67)), (5, .int (iz v56)), (4, .int (iz v36)), (3, .int (iz v30)), (0, .ref (X.2.2 c0)), (1, .ref (X.2.2 c1)), (2, .int (iz x2))]) C.1.1 C.1.2.1 dX5_flatLevels_70 hl (by decide) rfl (fun ls hl => ?_)
        exact (w_X5_flatLevels_72 l hinj hZ C out c0 c1 i0 i1 (f_X5_flatLevels_103 c0 c1 (f_X5_flatLevels_20 c0 c1 k109 N) N) (w_X5_flatLevels_103 l hinj hZ C out c0 c1 i0 i1 (f_X5_flatLevels_20 c0 c1 k109 N) ih N) N) x2 v30 v56 v67 S67 H locs ls hf hw (lv_sub hl [4, 5, 6, 3, 1, 0] rfl)
set_option maxRecDepth 100000 in
set_option maxHeartbeats 4000000 in
theorem c_X5_flatLevels (l : Launch) (X : XT) (hinj : XInj X nC) (hZ : ZOK (Zc X)) (N : Nat) (S : S2) (c0 : Nat) (c1 : Nat) (i0 : Is5 c0) (i1 : Is0 c1) (out : S2) (hf : f_X5_flatLevels N S c0 c1 = some out) : MR l X shC nC (Zc X) yX5_flatLevels cX5_flatLevels 7 (some (.array .int)) rmX5_flatLevels [.ref (X.2.2 c0), .ref (X.2.2 c1)] S (X.2.2 (c0 + 13)) out := by
  refine met_R (own := RX5) (by decide) rfl hinj hZ (Nat.le_of_ble_eq_true rfl) (fun p e s m args below meth c C ls H locs hw hl => ?_)
  unfold f_X5_flatLevels at hf
  have hl : lv_has ls 7 [(0, .ref (X.2.2 c0)), (1, .ref (X.2.2 c1))] := hl
  refine lv_aload_n C.1.1 C.1.2.1 dX5_flatLevels_0 rfl (lv_at hl 1 rfl) ?_
  refine r_getR (k := 0) C hw (is0_s i1) (is0_l i1) cO0 rfl (by decide) tw1_86 rfl dX5_flatLevels_1 ?_
  refine r_iconst (v := 0) C dX5_flatLevels_4 ?_
  refine lv_aload_n C.1.1 C.1.2.1 dX5_flatLevels_5 rfl (lv_at hl 0 rfl) ?_
  refine r_getR (k := 14) C hw (is5_s i0) (is5_l i0) cO5 rfl (by decide) tw1_128 rfl dX5_flatLevels_6 ?_
  refine r_iconst (v := 0) C dX5_flatLevels_9 ?_
  refine r_bipush (v := 48) C dX5_flatLevels_10 (by decide) ?_
  refine r_cpI C hw (is0_s1 i1) (is5_s13 i0) (is0_l1 i1) (is5_l13 i0) tw4_32 tw3_56 tw3_55 tw1_17 hl.1 (Nat.le_of_ble_eq_true rfl) (Nat.le_of_ble_eq_true rfl) (Nat.le_of_ble_eq_true rfl) (Nat.le_of_ble_eq_true rfl) dX5_flatLevels_12 hf (fun S12 H locs hf hw => ?_)
  refine lv_aload_n C.1.1 C.1.2.1 dX5_flatLevels_15 rfl (lv_at hl 0 rfl) ?_
  refine r_getI (k := 1) C hw (is5_s i0) (is5_l i0) cO5 rfl (by decide) tw1_113 rfl dX5_flatLevels_16 hf (fun v16 hf => ?_)
  refine lv_istore_n (lv' := [(2, .int (iz v16)), (0, .ref (X.2.2 c0)), (1, .ref (X.2.2 c1))]) C.1.1 C.1.2.1 dX5_flatLevels_19 rfl hl (by decide) rfl (fun ls hl => ?_)
  exact (w_X5_flatLevels_20 l hinj hZ C out c0 c1 i0 i1 (f_X5_flatLevels_109 c0 c1 N) (w_X5_flatLevels_109 l hinj hZ C out c0 c1 i0 i1 N) N) v16 S12 H locs ls hf hw (lv_sub hl [1, 2, 0] rfl)
def f_X6_begin (N : Nat) (S : S2) (c0 : Nat) : Option (S2) := uI S c0 1 0 fun S2 => uI S2 c0 2 (-1) fun S7 => uZ S7 c0 6 0 fun S12 => uZ S12 c0 7 0 fun S17 => rV S17
abbrev rmX6_begin : Room := { frames := 0, cells := 0, slots := 0, locals := 0 }
theorem hd_X6_begin : yX6_begin.cls ≠ "java/lang/invoke/MethodHandle" ∧ yX6_begin.cls ≠ "java/lang/invoke/VarHandle" ∧ (parseMethodDescriptor yX6_begin.desc).map (fun d => d.parameters.length) = some 0 := by decide +kernel
set_option maxRecDepth 100000 in
set_option maxHeartbeats 4000000 in
theorem c_X6_begin (l : Launch) (X : XT) (hinj : XInj X nC) (hZ : ZOK (Zc X)) (N : Nat) (S : S2) (c0 : Nat) (i0 : Is6 c0) (out : S2) (hf : f_X6_begin N S c0 = some out) : MV l X shC nC (Zc X) yX6_begin cX6_begin 1 none rmX6_begin [.ref (X.2.2 c0)] S out := by
  refine met_V (own := RX6) (by decide) rfl hinj hZ (Nat.le_of_ble_eq_true rfl) (fun p e s m args below meth c C ls H locs hw hl => ?_)
  unfold f_X6_begin at hf
  have hl : lv_has ls 1 [(0, .ref (X.2.2 c0))] := hl
  refine lv_aload_n C.1.1 C.1.2.1 dX6_begin_0 rfl (lv_at hl 0 rfl) ?_
  refine r_iconst (v := 0) C dX6_begin_1 ?_
  refine r_putI (k := 1) C hw (is6_s i0) (is6_l i0) cO6 rfl (by decide) tw1_55 rfl rfl rfl dX6_begin_2 hf (fun S2 H locs hf hw => ?_)
  refine lv_aload_n C.1.1 C.1.2.1 dX6_begin_5 rfl (lv_at hl 0 rfl) ?_
  refine r_iconst (v := (-1)) C dX6_begin_6 ?_
  refine r_putI (k := 2) C hw (is6_s i0) (is6_l i0) cO6 rfl (by decide) tw1_56 rfl rfl rfl dX6_begin_7 hf (fun S7 H locs hf hw => ?_)
  refine lv_aload_n C.1.1 C.1.2.1 dX6_begin_10 rfl (lv_at hl 0 rfl) ?_
  refine r_iconst (v := 0) C dX6_begin_11 ?_
  refine r_putZ (k := 6) C hw (is6_s i0) (is6_l i0) cO6 rfl (by decide) tw1_60 rfl rfl rfl dX6_begin_12 hf (fun S12 H locs hf hw => ?_)
  refine lv_aload_n C.1.1 C.1.2.1 dX6_begin_15 rfl (lv_at hl 0 rfl) ?_
  refine r_iconst (v := 0) C dX6_begin_16 ?_
  refine r_putZ (k := 7) C hw (is6_s i0) (is6_l i0) cO6 rfl (by decide) tw1_61 rfl rfl rfl dX6_begin_17 hf (fun S17 H locs hf hw => ?_)
  exact r_retV C hw dX6_begin_20 hf
def f_X6_fail (N : Nat) (S : S2) (c0 : Nat) (a1 : Int) : Option (Int × S2) := uI S c0 2 a1 fun S2 => rZ 0 S2
abbrev rmX6_fail : Room := { frames := 0, cells := 0, slots := 0, locals := 0 }
theorem hd_X6_fail : yX6_fail.cls ≠ "java/lang/invoke/MethodHandle" ∧ yX6_fail.cls ≠ "java/lang/invoke/VarHandle" ∧ (parseMethodDescriptor yX6_fail.desc).map (fun d => d.parameters.length) = some 1 := by decide +kernel
set_option maxRecDepth 100000 in
set_option maxHeartbeats 4000000 in
theorem c_X6_fail (l : Launch) (X : XT) (hinj : XInj X nC) (hZ : ZOK (Zc X)) (N : Nat) (S : S2) (c0 : Nat) (a1 : Int) (i0 : Is6 c0) (out : Int × S2) (hf : f_X6_fail N S c0 a1 = some out) : MI l X shC nC (Zc X) yX6_fail cX6_fail 2 (some .boolean) rmX6_fail [.ref (X.2.2 c0), .int (iz a1)] S out := by
  refine met_I (own := RX6) (by decide) rfl hinj hZ (Nat.le_of_ble_eq_true rfl) (fun p e s m args below meth c C ls H locs hw hl => ?_)
  unfold f_X6_fail at hf
  have hl : lv_has ls 2 [(0, .ref (X.2.2 c0)), (1, .int (iz a1))] := hl
  refine lv_aload_n C.1.1 C.1.2.1 dX6_fail_0 rfl (lv_at hl 0 rfl) ?_
  refine lv_iload_n C.1.1 C.1.2.1 dX6_fail_1 rfl (lv_at hl 1 rfl) ?_
  refine r_putI (k := 2) C hw (is6_s i0) (is6_l i0) cO6 rfl (by decide) tw1_56 rfl rfl rfl dX6_fail_2 hf (fun S2 H locs hf hw => ?_)
  refine r_iconst (v := 0) C dX6_fail_5 ?_
  exact r_retZ C hw dX6_fail_6 hf
def f_X7_numbersOf (N : Nat) (S : S2) (a0 : Int) : Option (Int × S2) := cI a0 0 (if a0 = 4 then rI 1 S else (if a0 = 5 then rI 1 S else (if a0 = 6 then rI 2 S else (if a0 = 7 then rI 2 S else (if a0 = 8 then rI 1 S else (if a0 = 9 then rI 2 S else rI 0 S))))))
abbrev rmX7_numbersOf : Room := { frames := 0, cells := 0, slots := 0, locals := 0 }
theorem hd_X7_numbersOf : yX7_numbersOf.cls ≠ "java/lang/invoke/MethodHandle" ∧ yX7_numbersOf.cls ≠ "java/lang/invoke/VarHandle" ∧ (parseMethodDescriptor yX7_numbersOf.desc).map (fun d => d.parameters.length) = some 1 := by decide +kernel
set_option maxRecDepth 100000 in
set_option maxHeartbeats 4000000 in
theorem c_X7_numbersOf (l : Launch) (X : XT) (hinj : XInj X nC) (hZ : ZOK (Zc X)) (N : Nat) (S : S2) (a0 : Int) (out : Int × S2) (hf : f_X7_numbersOf N S a0 = some out) : MI l X shC nC (Zc X) yX7_numbersOf cX7_numbersOf 1 (some .int) rmX7_numbersOf [.int (iz a0)] S out := by
  refine met_I (own := RX7) (by decide) rfl hinj hZ (Nat.le_of_ble_eq_true rfl) (fun p e s m args below meth c C ls H locs hw hl => ?_)
  unfold f_X7_numbersOf at hf
  have hl : lv_has ls 1 [(0, .int (iz a0))] := hl
  refine lv_iload_n C.1.1 C.1.2.1 dX7_numbersOf_0 rfl (lv_at hl 0 rfl) ?_
  obtain ⟨⟨hsw, -⟩, hf⟩ := cI_some hf
  rcases ite_some hf with ⟨hc1_4, hf⟩ | ⟨hc1_4, hf⟩
  · refine lv_tableIn (tgt := 40) C.1.1 C.1.2.1 dX7_numbersOf_1 (by rw [hc1_4]; decide) (by rw [hc1_4]; decide) (by rw [hc1_4]; rfl) (by decide) ?_
    refine r_iconst (v := 1) C dX7_numbersOf_40 ?_
    exact r_retI C hw dX7_numbersOf_41 hf
  · skip
    rcases ite_some hf with ⟨hc1_5, hf⟩ | ⟨hc1_5, hf⟩
    · refine lv_tableIn (tgt := 40) C.1.1 C.1.2.1 dX7_numbersOf_1 (by rw [hc1_5]; decide) (by rw [hc1_5]; decide) (by rw [hc1_5]; rfl) (by decide) ?_
      refine r_iconst (v := 1) C dX7_numbersOf_40 ?_
      exact r_retI C hw dX7_numbersOf_41 hf
    · skip
      rcases ite_some hf with ⟨hc1_6, hf⟩ | ⟨hc1_6, hf⟩
      · refine lv_tableIn (tgt := 42) C.1.1 C.1.2.1 dX7_numbersOf_1 (by rw [hc1_6]; decide) (by rw [hc1_6]; decide) (by rw [hc1_6]; rfl) (by decide) ?_
        refine r_iconst (v := 2) C dX7_numbersOf_42 ?_
        exact r_retI C hw dX7_numbersOf_43 hf
      · skip
        rcases ite_some hf with ⟨hc1_7, hf⟩ | ⟨hc1_7, hf⟩
        · refine lv_tableIn (tgt := 42) C.1.1 C.1.2.1 dX7_numbersOf_1 (by rw [hc1_7]; decide) (by rw [hc1_7]; decide) (by rw [hc1_7]; rfl) (by decide) ?_
          refine r_iconst (v := 2) C dX7_numbersOf_42 ?_
          exact r_retI C hw dX7_numbersOf_43 hf
        · skip
          rcases ite_some hf with ⟨hc1_8, hf⟩ | ⟨hc1_8, hf⟩
          · refine lv_tableIn (tgt := 40) C.1.1 C.1.2.1 dX7_numbersOf_1 (by rw [hc1_8]; decide) (by rw [hc1_8]; decide) (by rw [hc1_8]; rfl) (by decide) ?_
            refine r_iconst (v := 1) C dX7_numbersOf_40 ?_
            exact r_retI C hw dX7_numbersOf_41 hf
          · skip
            rcases ite_some hf with ⟨hc1_9, hf⟩ | ⟨hc1_9, hf⟩
            · refine lv_tableIn (tgt := 42) C.1.1 C.1.2.1 dX7_numbersOf_1 (by rw [hc1_9]; decide) (by rw [hc1_9]; decide) (by rw [hc1_9]; rfl) (by decide) ?_
              refine r_iconst (v := 2) C dX7_numbersOf_42 ?_
              exact r_retI C hw dX7_numbersOf_43 hf
            · skip
              refine lv_tableOut (tgt := 44) C.1.1 C.1.2.1 dX7_numbersOf_1 (by rw [sw_in hsw]; omega) (by decide) ?_
              refine r_iconst (v := 0) C dX7_numbersOf_44 ?_
              exact r_retI C hw dX7_numbersOf_45 hf
def f_X7_copyFrom (N : Nat) (S : S2) (c0 : Nat) (c1 : Nat) : Option (S2) := gI S c1 0 fun v2 => uI S c0 0 v2 fun S5 => cpI S5 (c1 + 1) (c0 + 1) 12 12 0 0 12 fun S20 => cpI S20 (c1 + 2) (c0 + 2) 12 12 0 0 12 fun S35 => cpI S35 (c1 + 3) (c0 + 3) 12 12 0 0 12 fun S50 => rV S50
abbrev rmX7_copyFrom : Room := { frames := 1, cells := 0, slots := 0, locals := 26 }
theorem hd_X7_copyFrom : yX7_copyFrom.cls ≠ "java/lang/invoke/MethodHandle" ∧ yX7_copyFrom.cls ≠ "java/lang/invoke/VarHandle" ∧ (parseMethodDescriptor yX7_copyFrom.desc).map (fun d => d.parameters.length) = some 1 := by decide +kernel
set_option maxRecDepth 100000 in
set_option maxHeartbeats 4000000 in
theorem c_X7_copyFrom (l : Launch) (X : XT) (hinj : XInj X nC) (hZ : ZOK (Zc X)) (N : Nat) (S : S2) (c0 : Nat) (c1 : Nat) (i0 : Is7 c0) (i1 : Is7 c1) (out : S2) (hf : f_X7_copyFrom N S c0 c1 = some out) : MV l X shC nC (Zc X) yX7_copyFrom cX7_copyFrom 2 none rmX7_copyFrom [.ref (X.2.2 c0), .ref (X.2.2 c1)] S out := by
  refine met_V (own := RX7) (by decide) rfl hinj hZ (Nat.le_of_ble_eq_true rfl) (fun p e s m args below meth c C ls H locs hw hl => ?_)
  unfold f_X7_copyFrom at hf
  have hl : lv_has ls 2 [(0, .ref (X.2.2 c0)), (1, .ref (X.2.2 c1))] := hl
  refine lv_aload_n C.1.1 C.1.2.1 dX7_copyFrom_0 rfl (lv_at hl 0 rfl) ?_
  refine lv_aload_n C.1.1 C.1.2.1 dX7_copyFrom_1 rfl (lv_at hl 1 rfl) ?_
  refine r_getI (k := 0) C hw (is7_s i1) (is7_l i1) cO7 rfl (by decide) tw2_3 rfl dX7_copyFrom_2 hf (fun v2 hf => ?_)
  refine r_putI (k := 0) C hw (is7_s i0) (is7_l i0) cO7 rfl (by decide) tw2_3 rfl rfl rfl dX7_copyFrom_5 hf (fun S5 H locs hf hw => ?_)
  refine lv_aload_n C.1.1 C.1.2.1 dX7_copyFrom_8 rfl (lv_at hl 1 rfl) ?_
  refine r_getR (k := 1) C hw (is7_s i1) (is7_l i1) cO7 rfl (by decide) tw2_5 rfl dX7_copyFrom_9 ?_
  refine r_iconst (v := 0) C dX7_copyFrom_12 ?_
  refine lv_aload_n C.1.1 C.1.2.1 dX7_copyFrom_13 rfl (lv_at hl 0 rfl) ?_
  refine r_getR (k := 1) C hw (is7_s i0) (is7_l i0) cO7 rfl (by decide) tw2_5 rfl dX7_copyFrom_14 ?_
  refine r_iconst (v := 0) C dX7_copyFrom_17 ?_
  refine r_bipush (v := 12) C dX7_copyFrom_18 (by decide) ?_
  refine r_cpI C hw (is7_s1 i1) (is7_s1 i0) (is7_l1 i1) (is7_l1 i0) tw3_128 tw3_56 tw3_55 tw1_17 hl.1 (Nat.le_of_ble_eq_true rfl) (Nat.le_of_ble_eq_true rfl) (Nat.le_of_ble_eq_true rfl) (Nat.le_of_ble_eq_true rfl) dX7_copyFrom_20 hf (fun S20 H locs hf hw => ?_)
  refine lv_aload_n C.1.1 C.1.2.1 dX7_copyFrom_23 rfl (lv_at hl 1 rfl) ?_
  refine r_getR (k := 2) C hw (is7_s i1) (is7_l i1) cO7 rfl (by decide) tw2_7 rfl dX7_copyFrom_24 ?_
  refine r_iconst (v := 0) C dX7_copyFrom_27 ?_
  refine lv_aload_n C.1.1 C.1.2.1 dX7_copyFrom_28 rfl (lv_at hl 0 rfl) ?_
  refine r_getR (k := 2) C hw (is7_s i0) (is7_l i0) cO7 rfl (by decide) tw2_7 rfl dX7_copyFrom_29 ?_
  refine r_iconst (v := 0) C dX7_copyFrom_32 ?_
  refine r_bipush (v := 12) C dX7_copyFrom_33 (by decide) ?_
  refine r_cpI C hw (is7_s2 i1) (is7_s2 i0) (is7_l2 i1) (is7_l2 i0) tw3_128 tw3_56 tw3_55 tw1_17 hl.1 (Nat.le_of_ble_eq_true rfl) (Nat.le_of_ble_eq_true rfl) (Nat.le_of_ble_eq_true rfl) (Nat.le_of_ble_eq_true rfl) dX7_copyFrom_35 hf (fun S35 H locs hf hw => ?_)
  refine lv_aload_n C.1.1 C.1.2.1 dX7_copyFrom_38 rfl (lv_at hl 1 rfl) ?_
  refine r_getR (k := 3) C hw (is7_s i1) (is7_l i1) cO7 rfl (by decide) tw2_9 rfl dX7_copyFrom_39 ?_
  refine r_iconst (v := 0) C dX7_copyFrom_42 ?_
  refine lv_aload_n C.1.1 C.1.2.1 dX7_copyFrom_43 rfl (lv_at hl 0 rfl) ?_
  refine r_getR (k := 3) C hw (is7_s i0) (is7_l i0) cO7 rfl (by decide) tw2_9 rfl dX7_copyFrom_44 ?_
  refine r_iconst (v := 0) C dX7_copyFrom_47 ?_
  refine r_bipush (v := 12) C dX7_copyFrom_48 (by decide) ?_
  refine r_cpI C hw (is7_s3 i1) (is7_s3 i0) (is7_l3 i1) (is7_l3 i0) tw3_128 tw3_56 tw3_55 tw1_17 hl.1 (Nat.le_of_ble_eq_true rfl) (Nat.le_of_ble_eq_true rfl) (Nat.le_of_ble_eq_true rfl) (Nat.le_of_ble_eq_true rfl) dX7_copyFrom_50 hf (fun S50 H locs hf hw => ?_)
  exact r_retV C hw dX7_copyFrom_53 hf
def f_X7_add (N : Nat) (S : S2) (c0 : Nat) (a1 : Int) (a2 : Int) (a3 : Int) : Option (S2) := gI S c0 0 fun v1 => cI v1 12 (if v1 < 12 then gI S c0 0 fun v15 => sI S (c0 + 1) 12 v15 a1 fun S19 => gI S19 c0 0 fun v25 => sI S19 (c0 + 2) 12 v25 a2 fun S29 => gI S29 c0 0 fun v35 => sI S29 (c0 + 3) 12 v35 a3 fun S39 => gI S39 c0 0 fun v42 => uI S39 c0 0 (v42 + 1) fun S47 => rV S47 else rV S)
abbrev rmX7_add : Room := { frames := 0, cells := 0, slots := 0, locals := 0 }
theorem hd_X7_add : yX7_add.cls ≠ "java/lang/invoke/MethodHandle" ∧ yX7_add.cls ≠ "java/lang/invoke/VarHandle" ∧ (parseMethodDescriptor yX7_add.desc).map (fun d => d.parameters.length) = some 3 := by decide +kernel
set_option maxRecDepth 100000 in
set_option maxHeartbeats 4000000 in
theorem c_X7_add (l : Launch) (X : XT) (hinj : XInj X nC) (hZ : ZOK (Zc X)) (N : Nat) (S : S2) (c0 : Nat) (a1 : Int) (a2 : Int) (a3 : Int) (i0 : Is7 c0) (out : S2) (hf : f_X7_add N S c0 a1 a2 a3 = some out) : MV l X shC nC (Zc X) yX7_add cX7_add 4 none rmX7_add [.ref (X.2.2 c0), .int (iz a1), .int (iz a2), .int (iz a3)] S out := by
  refine met_V (own := RX7) (by decide) rfl hinj hZ (Nat.le_of_ble_eq_true rfl) (fun p e s m args below meth c C ls H locs hw hl => ?_)
  unfold f_X7_add at hf
  have hl : lv_has ls 4 [(0, .ref (X.2.2 c0)), (1, .int (iz a1)), (2, .int (iz a2)), (3, .int (iz a3))] := hl
  refine lv_aload_n C.1.1 C.1.2.1 dX7_add_0 rfl (lv_at hl 0 rfl) ?_
  refine r_getI (k := 0) C hw (is7_s i0) (is7_l i0) cO7 rfl (by decide) tw2_3 rfl dX7_add_1 hf (fun v1 hf => ?_)
  refine r_bipush (v := 12) C dX7_add_4 (by decide) ?_
  refine r_icmp_lt C (tgt := 10) dX7_add_6 (by decide) hf (fun hf => ?_) (fun hf => ?_)
  · refine lv_aload_n C.1.1 C.1.2.1 dX7_add_10 rfl (lv_at hl 0 rfl) ?_
    refine r_getR (k := 1) C hw (is7_s i0) (is7_l i0) cO7 rfl (by decide) tw2_5 rfl dX7_add_11 ?_
    refine lv_aload_n C.1.1 C.1.2.1 dX7_add_14 rfl (lv_at hl 0 rfl) ?_
    refine r_getI (k := 0) C hw (is7_s i0) (is7_l i0) cO7 rfl (by decide) tw2_3 rfl dX7_add_15 hf (fun v15 hf => ?_)
    refine lv_iload_n C.1.1 C.1.2.1 dX7_add_18 rfl (lv_at hl 1 rfl) ?_
    refine r_iast C hw (is7_s1 i0) (is7_l1 i0) (Nat.le_of_ble_eq_true rfl) dX7_add_19 hf (fun S19 H locs hf hw => ?_)
    refine lv_aload_n C.1.1 C.1.2.1 dX7_add_20 rfl (lv_at hl 0 rfl) ?_
    refine r_getR (k := 2) C hw (is7_s i0) (is7_l i0) cO7 rfl (by decide) tw2_7 rfl dX7_add_21 ?_
    refine lv_aload_n C.1.1 C.1.2.1 dX7_add_24 rfl (lv_at hl 0 rfl) ?_
    refine r_getI (k := 0) C hw (is7_s i0) (is7_l i0) cO7 rfl (by decide) tw2_3 rfl dX7_add_25 hf (fun v25 hf => ?_)
    refine lv_iload_n C.1.1 C.1.2.1 dX7_add_28 rfl (lv_at hl 2 rfl) ?_
    refine r_iast C hw (is7_s2 i0) (is7_l2 i0) (Nat.le_of_ble_eq_true rfl) dX7_add_29 hf (fun S29 H locs hf hw => ?_)
    refine lv_aload_n C.1.1 C.1.2.1 dX7_add_30 rfl (lv_at hl 0 rfl) ?_
    refine r_getR (k := 3) C hw (is7_s i0) (is7_l i0) cO7 rfl (by decide) tw2_9 rfl dX7_add_31 ?_
    refine lv_aload_n C.1.1 C.1.2.1 dX7_add_34 rfl (lv_at hl 0 rfl) ?_
    refine r_getI (k := 0) C hw (is7_s i0) (is7_l i0) cO7 rfl (by decide) tw2_3 rfl dX7_add_35 hf (fun v35 hf => ?_)
    refine lv_iload_n C.1.1 C.1.2.1 dX7_add_38 rfl (lv_at hl 3 rfl) ?_
    refine r_iast C hw (is7_s3 i0) (is7_l3 i0) (Nat.le_of_ble_eq_true rfl) dX7_add_39 hf (fun S39 H locs hf hw => ?_)
    refine lv_aload_n C.1.1 C.1.2.1 dX7_add_40 rfl (lv_at hl 0 rfl) ?_
    refine lv_dup C.1.1 C.1.2.1 dX7_add_41 rfl ?_
    refine r_getI (k := 0) C hw (is7_s i0) (is7_l i0) cO7 rfl (by decide) tw2_3 rfl dX7_add_42 hf (fun v42 hf => ?_)
    refine r_iconst (v := 1) C dX7_add_45 ?_
    refine r_iadd C dX7_add_46 ?_
    refine r_putI (k := 0) C hw (is7_s i0) (is7_l i0) cO7 rfl (by decide) tw2_3 rfl rfl rfl dX7_add_47 hf (fun S47 H locs hf hw => ?_)
    exact r_retV C hw dX7_add_50 hf
  · exact r_retV C hw dX7_add_9 hf
def f_X7_tell (N : Nat) (S : S2) (c0 : Nat) (a1 : Int) (a2 : Int) : Option (Int × S2) := cI a1 0 (if a1 < 0 then rI (-1000000) S else gI S c0 0 fun v6 => cI a1 v6 (if v6 ≤ a1 then rI (-1000000) S else cI a2 0 (if a2 < 0 then rI (-1000000) S else aI S (c0 + 1) 12 a1 fun v22 => bI (f_X7_numbersOf N S v22) fun v23 S23 => cI a2 v23 (if a2 ≤ v23 then cI a2 0 (if a2 = 0 then aI S23 (c0 + 1) 12 a1 fun v41 => rI v41 S23 else cI a2 1 (if a2 = 1 then aI S23 (c0 + 2) 12 a1 fun v53 => rI v53 S23 else aI S23 (c0 + 3) 12 a1 fun v62 => rI v62 S23)) else rI (-1000000) S23))))
abbrev rmX7_tell : Room := { frames := 1, cells := 0, slots := 0, locals := 20 }
theorem hd_X7_tell : yX7_tell.cls ≠ "java/lang/invoke/MethodHandle" ∧ yX7_tell.cls ≠ "java/lang/invoke/VarHandle" ∧ (parseMethodDescriptor yX7_tell.desc).map (fun d => d.parameters.length) = some 2 := by decide +kernel
set_option maxRecDepth 100000 in
set_option maxHeartbeats 4000000 in
theorem c_X7_tell (l : Launch) (X : XT) (hinj : XInj X nC) (hZ : ZOK (Zc X)) (N : Nat) (S : S2) (c0 : Nat) (a1 : Int) (a2 : Int) (i0 : Is7 c0) (out : Int × S2) (hf : f_X7_tell N S c0 a1 a2 = some out) : MI l X shC nC (Zc X) yX7_tell cX7_tell 3 (some .int) rmX7_tell [.ref (X.2.2 c0), .int (iz a1), .int (iz a2)] S out := by
  refine met_I (own := RX7) (by decide) rfl hinj hZ (Nat.le_of_ble_eq_true rfl) (fun p e s m args below meth c C ls H locs hw hl => ?_)
  unfold f_X7_tell at hf
  have hl : lv_has ls 3 [(0, .ref (X.2.2 c0)), (1, .int (iz a1)), (2, .int (iz a2))] := hl
  refine lv_iload_n C.1.1 C.1.2.1 dX7_tell_0 rfl (lv_at hl 1 rfl) ?_
  refine r_if_lt C (tgt := 29) dX7_tell_1 (by decide) hf (fun hf => ?_) (fun hf => ?_)
  · refine r_ldc (v := (-1000000)) C tw4_239 (by decide) dX7_tell_29 ?_
    exact r_retI C hw dX7_tell_31 hf
  · refine lv_iload_n C.1.1 C.1.2.1 dX7_tell_4 rfl (lv_at hl 1 rfl) ?_
    refine lv_aload_n C.1.1 C.1.2.1 dX7_tell_5 rfl (lv_at hl 0 rfl) ?_
    refine r_getI (k := 0) C hw (is7_s i0) (is7_l i0) cO7 rfl (by decide) tw2_3 rfl dX7_tell_6 hf (fun v6 hf => ?_)
    refine r_icmp_ge C (tgt := 29) dX7_tell_9 (by decide) hf (fun hf => ?_) (fun hf => ?_)
    · refine r_ldc (v := (-1000000)) C tw4_239 (by decide) dX7_tell_29 ?_
      exact r_retI C hw dX7_tell_31 hf
    · refine lv_iload_n C.1.1 C.1.2.1 dX7_tell_12 rfl (lv_at hl 2 rfl) ?_
      refine r_if_lt C (tgt := 29) dX7_tell_13 (by decide) hf (fun hf => ?_) (fun hf => ?_)
      · refine r_ldc (v := (-1000000)) C tw4_239 (by decide) dX7_tell_29 ?_
        exact r_retI C hw dX7_tell_31 hf
      · refine lv_iload_n C.1.1 C.1.2.1 dX7_tell_16 rfl (lv_at hl 2 rfl) ?_
        refine lv_aload_n C.1.1 C.1.2.1 dX7_tell_17 rfl (lv_at hl 0 rfl) ?_
        refine r_getR (k := 1) C hw (is7_s i0) (is7_l i0) cO7 rfl (by decide) tw2_5 rfl dX7_tell_18 ?_
        refine lv_iload_n C.1.1 C.1.2.1 dX7_tell_21 rfl (lv_at hl 1 rfl) ?_
        refine r_iald C hw (is7_s1 i0) (is7_l1 i0) (Nat.le_of_ble_eq_true rfl) dX7_tell_22 hf (fun v22 hf => ?_)
        refine r_scallI (As := [.int (iz v22)]) (rest := [.int (iz a2)]) (rm := rmX7_numbersOf) C hw tw4_238 tw3_35 tw1_9 tw3_36 hd_X7_numbersOf rfl ⟨⟨rfl, rfl⟩, Nat.le_of_ble_eq_true rfl, Nat.le_of_ble_eq_true rfl⟩ hl.1 rfl (Nat.le_of_ble_eq_true rfl) dX7_tell_23 hf (fun o ho => c_X7_numbersOf l X hinj hZ N S v22 o ho) (fun v23 S23 H locs hf hw => ?_)
        refine r_icmp_le C (tgt := 32) dX7_tell_26 (by decide) hf (fun hf => ?_) (fun hf => ?_)
        · refine lv_iload_n C.1.1 C.1.2.1 dX7_tell_32 rfl (lv_at hl 2 rfl) ?_
          refine r_if_ne C (tgt := 43) dX7_tell_33 (by decide) hf (fun hf => ?_) (fun hf => ?_)
          · refine lv_iload_n C.1.1 C.1.2.1 dX7_tell_43 rfl (lv_at hl 2 rfl) ?_
            refine r_iconst (v := 1) C dX7_tell_44 ?_
            refine r_icmp_ne C (tgt := 57) dX7_tell_45 (by decide) hf (fun hf => ?_) (fun hf => ?_)
            · refine lv_aload_n C.1.1 C.1.2.1 dX7_tell_57 rfl (lv_at hl 0 rfl) ?_
              refine r_getR (k := 3) C hw (is7_s i0) (is7_l i0) cO7 rfl (by decide) tw2_9 rfl dX7_tell_58 ?_
              refine lv_iload_n C.1.1 C.1.2.1 dX7_tell_61 rfl (lv_at hl 1 rfl) ?_
              refine r_iald C hw (is7_s3 i0) (is7_l3 i0) (Nat.le_of_ble_eq_true rfl) dX7_tell_62 hf (fun v62 hf => ?_)
              exact r_retI C hw dX7_tell_63 hf
            · refine lv_aload_n C.1.1 C.1.2.1 dX7_tell_48 rfl (lv_at hl 0 rfl) ?_
              refine r_getR (k := 2) C hw (is7_s i0) (is7_l i0) cO7 rfl (by decide) tw2_7 rfl dX7_tell_49 ?_
              refine lv_iload_n C.1.1 C.1.2.1 dX7_tell_52 rfl (lv_at hl 1 rfl) ?_
              refine r_iald C hw (is7_s2 i0) (is7_l2 i0) (Nat.le_of_ble_eq_true rfl) dX7_tell_53 hf (fun v53 hf => ?_)
              refine lv_goto (tgt := 63) C.1.1 C.1.2.1 dX7_tell_54 (by decide) ?_
              exact r_retI C hw dX7_tell_63 hf
          · refine lv_aload_n C.1.1 C.1.2.1 dX7_tell_36 rfl (lv_at hl 0 rfl) ?_
            refine r_getR (k := 1) C hw (is7_s i0) (is7_l i0) cO7 rfl (by decide) tw2_5 rfl dX7_tell_37 ?_
            refine lv_iload_n C.1.1 C.1.2.1 dX7_tell_40 rfl (lv_at hl 1 rfl) ?_
            refine r_iald C hw (is7_s1 i0) (is7_l1 i0) (Nat.le_of_ble_eq_true rfl) dX7_tell_41 hf (fun v41 hf => ?_)
            exact r_retI C hw dX7_tell_42 hf
        · refine r_ldc (v := (-1000000)) C tw4_239 (by decide) dX7_tell_29 ?_
          exact r_retI C hw dX7_tell_31 hf
def f_X8_add (N : Nat) (S : S2) (c0 : Nat) (a1 : Int) : Option (S2) := gI S c0 1 fun v1 => cI v1 13 (if 13 ≤ v1 then rV S else gI S c0 1 fun v14 => sI S (c0 + 1) 13 v14 a1 fun S18 => gI S18 c0 1 fun v21 => uI S18 c0 1 (v21 + 1) fun S26 => rV S26)
abbrev rmX8_add : Room := { frames := 0, cells := 0, slots := 0, locals := 0 }
theorem hd_X8_add : yX8_add.cls ≠ "java/lang/invoke/MethodHandle" ∧ yX8_add.cls ≠ "java/lang/invoke/VarHandle" ∧ (parseMethodDescriptor yX8_add.desc).map (fun d => d.parameters.length) = some 1 := by decide +kernel
set_option maxRecDepth 100000 in
set_option maxHeartbeats 4000000 in
theorem c_X8_add (l : Launch) (X : XT) (hinj : XInj X nC) (hZ : ZOK (Zc X)) (N : Nat) (S : S2) (c0 : Nat) (a1 : Int) (i0 : Is8 c0) (out : S2) (hf : f_X8_add N S c0 a1 = some out) : MV l X shC nC (Zc X) yX8_add cX8_add 2 none rmX8_add [.ref (X.2.2 c0), .int (iz a1)] S out := by
  refine met_V (own := RX8) (by decide) rfl hinj hZ (Nat.le_of_ble_eq_true rfl) (fun p e s m args below meth c C ls H locs hw hl => ?_)
  unfold f_X8_add at hf
  have hl : lv_has ls 2 [(0, .ref (X.2.2 c0)), (1, .int (iz a1))] := hl
  refine lv_aload_n C.1.1 C.1.2.1 dX8_add_0 rfl (lv_at hl 0 rfl) ?_
  refine r_getI (k := 1) C hw (is8_s i0) (is8_l i0) cO8 rfl (by decide) tw2_39 rfl dX8_add_1 hf (fun v1 hf => ?_)
  refine r_bipush (v := 13) C dX8_add_4 (by decide) ?_
  refine r_icmp_ge C (tgt := 29) dX8_add_6 (by decide) hf (fun hf => ?_) (fun hf => ?_)
  · exact r_retV C hw dX8_add_29 hf
  · refine lv_aload_n C.1.1 C.1.2.1 dX8_add_9 rfl (lv_at hl 0 rfl) ?_
    refine r_getR (k := 0) C hw (is8_s i0) (is8_l i0) cO8 rfl (by decide) tw2_37 rfl dX8_add_10 ?_
    refine lv_aload_n C.1.1 C.1.2.1 dX8_add_13 rfl (lv_at hl 0 rfl) ?_
    refine r_getI (k := 1) C hw (is8_s i0) (is8_l i0) cO8 rfl (by decide) tw2_39 rfl dX8_add_14 hf (fun v14 hf => ?_)
    refine lv_iload_n C.1.1 C.1.2.1 dX8_add_17 rfl (lv_at hl 1 rfl) ?_
    refine r_iast C hw (is8_s1 i0) (is8_l1 i0) (Nat.le_of_ble_eq_true rfl) dX8_add_18 hf (fun S18 H locs hf hw => ?_)
    refine lv_aload_n C.1.1 C.1.2.1 dX8_add_19 rfl (lv_at hl 0 rfl) ?_
    refine lv_dup C.1.1 C.1.2.1 dX8_add_20 rfl ?_
    refine r_getI (k := 1) C hw (is8_s i0) (is8_l i0) cO8 rfl (by decide) tw2_39 rfl dX8_add_21 hf (fun v21 hf => ?_)
    refine r_iconst (v := 1) C dX8_add_24 ?_
    refine r_iadd C dX8_add_25 ?_
    refine r_putI (k := 1) C hw (is8_s i0) (is8_l i0) cO8 rfl (by decide) tw2_39 rfl rfl rfl dX8_add_26 hf (fun S26 H locs hf hw => ?_)
    exact r_retV C hw dX8_add_29 hf
def f_X8_addName_14 (c0 : Nat) (c1 : Nat) : Nat → Int → Int → S2 → Option (S2)
  | 0, _, _, _ => none
  | N + 1, x2, x3, S => aI S (c1 + 2) 8 x2 fun v20 => cI x3 v20 (if v20 ≤ x3 then rV S else bI (f_X3_letter N S c1 x2 x3) fun v28 S28 => bV (f_X8_add N S28 c0 v28) fun S31 => (f_X8_addName_14 c0 c1 N) x2 (x3 + 1) S31)
def f_X8_addName (N : Nat) (S : S2) (c0 : Nat) (c1 : Nat) (a2 : Int) : Option (S2) := cI a2 (-1) (if a2 = (-1) then bV (f_X8_add N S c0 63) fun S8 => rV S8 else (f_X8_addName_14 c0 c1 N) a2 0 S)
abbrev rmX8_addName : Room := { frames := 1, cells := 0, slots := 0, locals := 22 }
theorem hd_X8_addName : yX8_addName.cls ≠ "java/lang/invoke/MethodHandle" ∧ yX8_addName.cls ≠ "java/lang/invoke/VarHandle" ∧ (parseMethodDescriptor yX8_addName.desc).map (fun d => d.parameters.length) = some 2 := by decide +kernel
set_option maxRecDepth 100000 in
set_option maxHeartbeats 4000000 in
theorem w_X8_addName_14 {p : Program} (l : Launch) {e : Env} {s : State} {m : MethodId} {args : Array Value} {below : List Frame} {meth : Method} {c : Code} {X : XT} (hinj : XInj X nC) (hZ : ZOK (Zc X)) (C : CX p s m args meth c cX8_addName 4 RX8 none X nC (Zc X)) (out : S2) (c0 : Nat) (c1 : Nat) (i0 : Is8 c0) (i1 : Is3 c1) : ∀ (N : Nat), ∀ (x2 : Int) (x3 : Int) (S : S2) (H : Heap) (locs : List Loc) (ls : Array Slot), f_X8_addName_14 c0 c1 N x2 x3 S = some out → WH X shC nC s S H locs → lv_has ls 4 [(0, .ref (X.2.2 c0)), (1, .ref (X.2.2 c1)), (2, .int (iz x2)), (3, .int (iz x3))] → W p l e rmX8_addName s m args below meth c H locs 0 0 (QV X shC nC s args below out) (F0 m 14 ls []) := by
  intro N
  induction N with
  | zero => intro x2 x3 S H locs ls hf hw hl; cases hf
  | succ N ih =>
    intro x2 x3 S H locs ls hf hw hl
    rw [f_X8_addName_14.eq_2] at hf
    refine lv_iload_n C.1.1 C.1.2.1 dX8_addName_14 rfl (lv_at hl 3 rfl) ?_
    refine lv_aload_n C.1.1 C.1.2.1 dX8_addName_15 rfl (lv_at hl 1 rfl) ?_
    refine r_getR (k := 3) C hw (is3_s i1) (is3_l i1) cO3 rfl (by decide) tw1_175 rfl dX8_addName_16 ?_
    refine lv_iload_n C.1.1 C.1.2.1 dX8_addName_19 rfl (lv_at hl 2 rfl) ?_
    refine r_iald C hw (is3_s2 i1) (is3_l2 i1) (Nat.le_of_ble_eq_true rfl) dX8_addName_20 hf (fun v20 hf => ?_)
    refine r_icmp_ge C (tgt := 40) dX8_addName_21 (by decide) hf (fun hf => ?_) (fun hf => ?_)
    · exact r_retV C hw dX8_addName_40 hf
    · refine lv_aload_n C.1.1 C.1.2.1 dX8_addName_24 rfl (lv_at hl 0 rfl) ?_
      refine lv_aload_n C.1.1 C.1.2.1 dX8_addName_25 rfl (lv_at hl 1 rfl) ?_
      refine lv_iload_n C.1.1 C.1.2.1 dX8_addName_26 rfl (lv_at hl 2 rfl) ?_
      refine lv_iload_n C.1.1 C.1.2.1 dX8_addName_27 rfl (lv_at hl 3 rfl) ?_
      refine r_callI (As := [.int (iz x2), .int (iz x3)]) (rest := [.ref (X.2.2 c0)]) (rm := rmX3_letter) C hw (is3_s i1) (is3_l i1) cO3 tw4_220 tw2_237 tw2_238 tw1_6 tw2_239 hd_X3_letter rfl ⟨⟨rfl, rfl⟩, Nat.le_of_ble_eq_true rfl, Nat.le_of_ble_eq_true rfl⟩ hl.1 rfl (Nat.le_of_ble_eq_true rfl) dX8_addName_28 hf (fun o ho => c_X3_letter l X hinj hZ N S c1 x2 x3 i1 o ho) (fun v28 S28 H locs hf hw => ?_)
      refine r_callV (As := [.int (iz v28)]) (rest := []) (rm := rmX8_add) C hw (is8_s i0) (is8_l i0) cO8 tw4_216 tw4_217 tw4_218 tw1_11 tw4_219 hd_X8_add rfl ⟨⟨rfl, rfl⟩, Nat.le_of_ble_eq_true rfl, Nat.le_of_ble_eq_true rfl⟩ hl.1 rfl (Nat.le_of_ble_eq_true rfl) dX8_addName_31 hf (fun o ho => c_X8_add l X hinj hZ N S28 c0 v28 i0 o ho) (fun S31 H locs hf hw => ?_)
      refine lv_iinc (v := iz (x3 + 1)) (lv' := [(3, .int (iz (x3 + 1))), (0, .ref (X.2.2 c0)), (1, .ref (X.2.2 c1)), (2, .int (iz x2))]) C.1.1 C.1.2.1 dX8_addName_34 hl (k := 3) rfl (iz_add _ _) (by decide) rfl (fun ls hl => ?_)
      refine lv_goto (tgt := 14) C.1.1 C.1.2.1 dX8_addName_37 (by decide) ?_
      exact ih x2 (x3 + 1) S31 H locs ls hf hw (lv_sub hl [1, 2, 3, 0] rfl)
set_option maxRecDepth 100000 in
set_option maxHeartbeats 4000000 in
theorem c_X8_addName (l : Launch) (X : XT) (hinj : XInj X nC) (hZ : ZOK (Zc X)) (N : Nat) (S : S2) (c0 : Nat) (c1 : Nat) (a2 : Int) (i0 : Is8 c0) (i1 : Is3 c1) (out : S2) (hf : f_X8_addName N S c0 c1 a2 = some out) : MV l X shC nC (Zc X) yX8_addName cX8_addName 4 none rmX8_addName [.ref (X.2.2 c0), .ref (X.2.2 c1), .int (iz a2)] S out := by
  refine met_V (own := RX8) (by decide) rfl hinj hZ (Nat.le_of_ble_eq_true rfl) (fun p e s m args below meth c C ls H locs hw hl => ?_)
  unfold f_X8_addName at hf
  have hl : lv_has ls 4 [(0, .ref (X.2.2 c0)), (1, .ref (X.2.2 c1)), (2, .int (iz a2))] := hl
  refine lv_iload_n C.1.1 C.1.2.1 dX8_addName_0 rfl (lv_at hl 2 rfl) ?_
  refine r_iconst (v := (-1)) C dX8_addName_1 ?_
  refine r_icmp_ne C (tgt := 12) dX8_addName_2 (by decide) hf (fun hf => ?_) (fun hf => ?_)
  · refine r_iconst (v := 0) C dX8_addName_12 ?_
    refine lv_istore_n (lv' := [(3, .int (iz 0)), (0, .ref (X.2.2 c0)), (1, .ref (X.2.2 c1)), (2, .int (iz a2))]) C.1.1 C.1.2.1 dX8_addName_13 rfl hl (by decide) rfl (fun ls hl => ?_)
    exact (w_X8_addName_14 l hinj hZ C out c0 c1 i0 i1 N) a2 0 S H locs ls hf hw (lv_sub hl [1, 2, 3, 0] rfl)
  · refine lv_aload_n C.1.1 C.1.2.1 dX8_addName_5 rfl (lv_at hl 0 rfl) ?_
    refine r_bipush (v := 63) C dX8_addName_6 (by decide) ?_
    refine r_callV (As := [.int (iz 63)]) (rest := []) (rm := rmX8_add) C hw (is8_s i0) (is8_l i0) cO8 tw4_216 tw4_217 tw4_218 tw1_11 tw4_219 hd_X8_add rfl ⟨⟨rfl, rfl⟩, Nat.le_of_ble_eq_true rfl, Nat.le_of_ble_eq_true rfl⟩ hl.1 rfl (Nat.le_of_ble_eq_true rfl) dX8_addName_8 hf (fun o ho => c_X8_add l X hinj hZ N S c0 63 i0 o ho) (fun S8 H locs hf hw => ?_)
    exact r_retV C hw dX8_addName_11 hf
def f_X8_addNumber_40 (c0 : Nat) (N : Nat) (x1 : Int) (S : S2) : Option (S2) := rmI x1 10 fun v46 => bV (f_X8_add N S c0 (48 + v46)) fun S48 => rV S48
def f_X8_addNumber_20 (c0 : Nat) (N : Nat) (x1 : Int) (S : S2) : Option (S2) := cI x1 10 (if x1 < 10 then (f_X8_addNumber_40 c0 N) x1 S else dvI x1 10 fun v32 => rmI v32 10 fun v35 => bV (f_X8_add N S c0 (48 + v35)) fun S37 => (f_X8_addNumber_40 c0 N) x1 S37)
def f_X8_addNumber (N : Nat) (S : S2) (c0 : Nat) (a1 : Int) : Option (S2) := cI a1 100 (if a1 < 100 then (f_X8_addNumber_20 c0 N) a1 S else dvI a1 100 fun v12 => rmI v12 10 fun v15 => bV (f_X8_add N S c0 (48 + v15)) fun S17 => (f_X8_addNumber_20 c0 N) a1 S17)
abbrev rmX8_addNumber : Room := { frames := 1, cells := 0, slots := 0, locals := 21 }
theorem hd_X8_addNumber : yX8_addNumber.cls ≠ "java/lang/invoke/MethodHandle" ∧ yX8_addNumber.cls ≠ "java/lang/invoke/VarHandle" ∧ (parseMethodDescriptor yX8_addNumber.desc).map (fun d => d.parameters.length) = some 1 := by decide +kernel
set_option maxRecDepth 100000 in
set_option maxHeartbeats 4000000 in
theorem w_X8_addNumber_40 {p : Program} (l : Launch) {e : Env} {s : State} {m : MethodId} {args : Array Value} {below : List Frame} {meth : Method} {c : Code} {X : XT} (hinj : XInj X nC) (hZ : ZOK (Zc X)) (C : CX p s m args meth c cX8_addNumber 2 RX8 none X nC (Zc X)) (out : S2) (c0 : Nat) (i0 : Is8 c0) : ∀ (N : Nat), ∀ (x1 : Int) (S : S2) (H : Heap) (locs : List Loc) (ls : Array Slot), f_X8_addNumber_40 c0 N x1 S = some out → WH X shC nC s S H locs → lv_has ls 2 [(0, .ref (X.2.2 c0)), (1, .int (iz x1))] → W p l e rmX8_addNumber s m args below meth c H locs 0 0 (QV X shC nC s args below out) (F0 m 40 ls []) := by
  intro N x1 S H locs ls hf hw hl
  unfold f_X8_addNumber_40 at hf
  refine lv_aload_n C.1.1 C.1.2.1 dX8_addNumber_40 rfl (lv_at hl 0 rfl) ?_
  refine r_bipush (v := 48) C dX8_addNumber_41 (by decide) ?_
  refine lv_iload_n C.1.1 C.1.2.1 dX8_addNumber_43 rfl (lv_at hl 1 rfl) ?_
  refine r_bipush (v := 10) C dX8_addNumber_44 (by decide) ?_
  refine r_irem C dX8_addNumber_46 hf (fun v46 hf => ?_)
  refine r_iadd C dX8_addNumber_47 ?_
  refine r_callV (As := [.int (iz (48 + v46))]) (rest := []) (rm := rmX8_add) C hw (is8_s i0) (is8_l i0) cO8 tw4_216 tw4_217 tw4_218 tw1_11 tw4_219 hd_X8_add rfl ⟨⟨rfl, rfl⟩, Nat.le_of_ble_eq_true rfl, Nat.le_of_ble_eq_true rfl⟩ hl.1 rfl (Nat.le_of_ble_eq_true rfl) dX8_addNumber_48 hf (fun o ho => c_X8_add l X hinj hZ N S c0 (48 + v46) i0 o ho) (fun S48 H locs hf hw => ?_)
  exact r_retV C hw dX8_addNumber_51 hf
set_option maxRecDepth 100000 in
set_option maxHeartbeats 4000000 in
theorem w_X8_addNumber_20 {p : Program} (l : Launch) {e : Env} {s : State} {m : MethodId} {args : Array Value} {below : List Frame} {meth : Method} {c : Code} {X : XT} (hinj : XInj X nC) (hZ : ZOK (Zc X)) (C : CX p s m args meth c cX8_addNumber 2 RX8 none X nC (Zc X)) (out : S2) (c0 : Nat) (i0 : Is8 c0) : ∀ (N : Nat), ∀ (x1 : Int) (S : S2) (H : Heap) (locs : List Loc) (ls : Array Slot), f_X8_addNumber_20 c0 N x1 S = some out → WH X shC nC s S H locs → lv_has ls 2 [(0, .ref (X.2.2 c0)), (1, .int (iz x1))] → W p l e rmX8_addNumber s m args below meth c H locs 0 0 (QV X shC nC s args below out) (F0 m 20 ls []) := by
  intro N x1 S H locs ls hf hw hl
  unfold f_X8_addNumber_20 at hf
  refine lv_iload_n C.1.1 C.1.2.1 dX8_addNumber_20 rfl (lv_at hl 1 rfl) ?_
  refine r_bipush (v := 10) C dX8_addNumber_21 (by decide) ?_
  refine r_icmp_lt C (tgt := 40) dX8_addNumber_23 (by decide) hf (fun hf => ?_) (fun hf => ?_)
  · exact (w_X8_addNumber_40 l hinj hZ C out c0 i0 N) x1 S H locs ls hf hw (lv_sub hl [0, 1] rfl)
  · refine lv_aload_n C.1.1 C.1.2.1 dX8_addNumber_26 rfl (lv_at hl 0 rfl) ?_
    refine r_bipush (v := 48) C dX8_addNumber_27 (by decide) ?_
    refine lv_iload_n C.1.1 C.1.2.1 dX8_addNumber_29 rfl (lv_at hl 1 rfl) ?_
    refine r_bipush (v := 10) C dX8_addNumber_30 (by decide) ?_
    refine r_idiv C dX8_addNumber_32 hf (fun v32 hf => ?_)
    refine r_bipush (v := 10) C dX8_addNumber_33 (by decide) ?_
    refine r_irem C dX8_addNumber_35 hf (fun v35 hf => ?_)
    refine r_iadd C dX8_addNumber_36 ?_
    refine r_callV (As := [.int (iz (48 + v35))]) (rest := []) (rm := rmX8_add) C hw (is8_s i0) (is8_l i0) cO8 tw4_216 tw4_217 tw4_218 tw1_11 tw4_219 hd_X8_add rfl ⟨⟨rfl, rfl⟩, Nat.le_of_ble_eq_true rfl, Nat.le_of_ble_eq_true rfl⟩ hl.1 rfl (Nat.le_of_ble_eq_true rfl) dX8_addNumber_37 hf (fun o ho => c_X8_add l X hinj hZ N S c0 (48 + v35) i0 o ho) (fun S37 H locs hf hw => ?_)
    exact (w_X8_addNumber_40 l hinj hZ C out c0 i0 N) x1 S37 H locs ls hf hw (lv_sub hl [0, 1] rfl)
set_option maxRecDepth 100000 in
set_option maxHeartbeats 4000000 in
theorem c_X8_addNumber (l : Launch) (X : XT) (hinj : XInj X nC) (hZ : ZOK (Zc X)) (N : Nat) (S : S2) (c0 : Nat) (a1 : Int) (i0 : Is8 c0) (out : S2) (hf : f_X8_addNumber N S c0 a1 = some out) : MV l X shC nC (Zc X) yX8_addNumber cX8_addNumber 2 none rmX8_addNumber [.ref (X.2.2 c0), .int (iz a1)] S out := by
  refine met_V (own := RX8) (by decide) rfl hinj hZ (Nat.le_of_ble_eq_true rfl) (fun p e s m args below meth c C ls H locs hw hl => ?_)
  unfold f_X8_addNumber at hf
  have hl : lv_has ls 2 [(0, .ref (X.2.2 c0)), (1, .int (iz a1))] := hl
  refine lv_iload_n C.1.1 C.1.2.1 dX8_addNumber_0 rfl (lv_at hl 1 rfl) ?_
  refine r_bipush (v := 100) C dX8_addNumber_1 (by decide) ?_
  refine r_icmp_lt C (tgt := 20) dX8_addNumber_3 (by decide) hf (fun hf => ?_) (fun hf => ?_)
  · exact (w_X8_addNumber_20 l hinj hZ C out c0 i0 N) a1 S H locs ls hf hw (lv_sub hl [0, 1] rfl)
  · refine lv_aload_n C.1.1 C.1.2.1 dX8_addNumber_6 rfl (lv_at hl 0 rfl) ?_
    refine r_bipush (v := 48) C dX8_addNumber_7 (by decide) ?_
    refine lv_iload_n C.1.1 C.1.2.1 dX8_addNumber_9 rfl (lv_at hl 1 rfl) ?_
    refine r_bipush (v := 100) C dX8_addNumber_10 (by decide) ?_
    refine r_idiv C dX8_addNumber_12 hf (fun v12 hf => ?_)
    refine r_bipush (v := 10) C dX8_addNumber_13 (by decide) ?_
    refine r_irem C dX8_addNumber_15 hf (fun v15 hf => ?_)
    refine r_iadd C dX8_addNumber_16 ?_
    refine r_callV (As := [.int (iz (48 + v15))]) (rest := []) (rm := rmX8_add) C hw (is8_s i0) (is8_l i0) cO8 tw4_216 tw4_217 tw4_218 tw1_11 tw4_219 hd_X8_add rfl ⟨⟨rfl, rfl⟩, Nat.le_of_ble_eq_true rfl, Nat.le_of_ble_eq_true rfl⟩ hl.1 rfl (Nat.le_of_ble_eq_true rfl) dX8_addNumber_17 hf (fun o ho => c_X8_add l X hinj hZ N S c0 (48 + v15) i0 o ho) (fun S17 H locs hf hw => ?_)
    exact (w_X8_addNumber_20 l hinj hZ C out c0 i0 N) a1 S17 H locs ls hf hw (lv_sub hl [0, 1] rfl)
def f_X9_addWord_50 (c0 : Nat) (k3 : Int → Int → S2 → Option (S2)) (N : Nat) (x1 : Int) (x2 : Int) (S : S2) : Option (S2) := k3 x1 (x2 + (-8)) S
def f_X9_addWord_3 (c0 : Nat) : Nat → Int → Int → S2 → Option (S2)
  | 0, _, _, _ => none
  | N + 1, x1, x2, S => cI x2 0 (if x2 < 0 then rV S else cI (bz (iz (bz ((iz x1).toUInt32 >>> ((iz x2).toUInt32 &&& Int32.toUInt32 31)).toInt32) &&& iz 255)) 0 (if (bz (iz (bz ((iz x1).toUInt32 >>> ((iz x2).toUInt32 &&& Int32.toUInt32 31)).toInt32) &&& iz 255)) = 0 then (f_X9_addWord_50 c0 (f_X9_addWord_3 c0 N) N) x1 x2 S else gI S c0 1 fun v20 => cI v20 400 (if 400 ≤ v20 then (f_X9_addWord_50 c0 (f_X9_addWord_3 c0 N) N) x1 x2 S else gI S c0 1 fun v34 => sC S (c0 + 1) 400 v34 (bz ((iz (bz (iz (bz ((iz x1).toUInt32 >>> ((iz x2).toUInt32 &&& Int32.toUInt32 31)).toInt32) &&& iz 255))).toUInt32 % 65536).toInt32) fun S39 => gI S39 c0 1 fun v42 => uI S39 c0 1 (v42 + 1) fun S47 => (f_X9_addWord_50 c0 (f_X9_addWord_3 c0 N) N) x1 x2 S47)))
def f_X9_addWord (N : Nat) (S : S2) (c0 : Nat) (a1 : Int) : Option (S2) := (f_X9_addWord_3 c0 N) a1 24 S
abbrev rmX9_addWord : Room := { frames := 0, cells := 0, slots := 0, locals := 0 }
theorem hd_X9_addWord : yX9_addWord.cls ≠ "java/lang/invoke/MethodHandle" ∧ yX9_addWord.cls ≠ "java/lang/invoke/VarHandle" ∧ (parseMethodDescriptor yX9_addWord.desc).map (fun d => d.parameters.length) = some 1 := by decide +kernel
set_option maxRecDepth 100000 in
set_option maxHeartbeats 4000000 in
theorem w_X9_addWord_50 {p : Program} (l : Launch) {e : Env} {s : State} {m : MethodId} {args : Array Value} {below : List Frame} {meth : Method} {c : Code} {X : XT} (hinj : XInj X nC) (hZ : ZOK (Zc X)) (C : CX p s m args meth c cX9_addWord 4 RX9 none X nC (Zc X)) (out : S2) (c0 : Nat) (i0 : Is9 c0) (k3 : Int → Int → S2 → Option (S2)) (hk3 : ∀ (x1 : Int) (x2 : Int) (S : S2) (H : Heap) (locs : List Loc) (ls : Array Slot), k3 x1 x2 S = some out → WH X shC nC s S H locs → lv_has ls 4 [(0, .ref (X.2.2 c0)), (1, .int (iz x1)), (2, .int (iz x2))] → W p l e rmX9_addWord s m args below meth c H locs 0 0 (QV X shC nC s args below out) (F0 m 3 ls [])) : ∀ (N : Nat), ∀ (x1 : Int) (x2 : Int) (S : S2) (H : Heap) (locs : List Loc) (ls : Array Slot), f_X9_addWord_50 c0 k3 N x1 x2 S = some out → WH X shC nC s S H locs → lv_has ls 4 [(0, .ref (X.2.2 c0)), (1, .int (iz x1)), (2, .int (iz x2))] → W p l e rmX9_addWord s m args below meth c H locs 0 0 (QV X shC nC s args below out) (F0 m 50 ls []) := by
  intro N x1 x2 S H locs ls hf hw hl
  unfold f_X9_addWord_50 at hf
  refine lv_iinc (v := iz (x2 + (-8))) (lv' := [(2, .int (iz (x2 + (-8)))), (0, .ref (X.2.2 c0)), (1, .int (iz x1))]) C.1.1 C.1.2.1 dX9_addWord_50 hl (k := 2) rfl (iz_add _ _) (by decide) rfl (fun ls hl => ?_)
  refine lv_goto (tgt := 3) C.1.1 C.1.2.1 dX9_addWord_53 (by decide) ?_
  exact hk3 x1 (x2 + (-8)) S H locs ls hf hw (lv_sub hl [1, 2, 0] rfl)
set_option maxRecDepth 100000 in
set_option maxHeartbeats 4000000 in
theorem w_X9_addWord_3 {p : Program} (l : Launch) {e : Env} {s : State} {m : MethodId} {args : Array Value} {below : List Frame} {meth : Method} {c : Code} {X : XT} (hinj : XInj X nC) (hZ : ZOK (Zc X)) (C : CX p s m args meth c cX9_addWord 4 RX9 none X nC (Zc X)) (out : S2) (c0 : Nat) (i0 : Is9 c0) : ∀ (N : Nat), ∀ (x1 : Int) (x2 : Int) (S : S2) (H : Heap) (locs : List Loc) (ls : Array Slot), f_X9_addWord_3 c0 N x1 x2 S = some out → WH X shC nC s S H locs → lv_has ls 4 [(0, .ref (X.2.2 c0)), (1, .int (iz x1)), (2, .int (iz x2))] → W p l e rmX9_addWord s m args below meth c H locs 0 0 (QV X shC nC s args below out) (F0 m 3 ls []) := by
  intro N
  induction N with
  | zero => intro x1 x2 S H locs ls hf hw hl; cases hf
  | succ N ih =>
    intro x1 x2 S H locs ls hf hw hl
    rw [f_X9_addWord_3.eq_2] at hf
    refine lv_iload_n C.1.1 C.1.2.1 dX9_addWord_3 rfl (lv_at hl 2 rfl) ?_
    refine r_if_lt C (tgt := 56) dX9_addWord_4 (by decide) hf (fun hf => ?_) (fun hf => ?_)
    · exact r_retV C hw dX9_addWord_56 hf
    · refine lv_iload_n C.1.1 C.1.2.1 dX9_addWord_7 rfl (lv_at hl 1 rfl) ?_
      refine lv_iload_n C.1.1 C.1.2.1 dX9_addWord_8 rfl (lv_at hl 2 rfl) ?_
      refine r_iushr C dX9_addWord_9 ?_
      refine r_sipush (v := 255) C dX9_addWord_10 (by decide) ?_
      refine r_iand C dX9_addWord_13 ?_
      refine lv_istore_n (lv' := [(3, .int (iz (bz (iz (bz ((iz x1).toUInt32 >>> ((iz x2).toUInt32 &&& Int32.toUInt32 31)).toInt32) &&& iz 255)))), (0, .ref (X.2.2 c0)), (1, .int (iz x1)), (2, .int (iz x2))]) C.1.1 C.1.2.1 dX9_addWord_14 rfl hl (by decide) rfl (fun ls hl => ?_)
      refine lv_iload_n C.1.1 C.1.2.1 dX9_addWord_15 rfl (lv_at hl 0 rfl) ?_
      refine r_if_eq C (tgt := 50) dX9_addWord_16 (by decide) hf (fun hf => ?_) (fun hf => ?_)
      · exact (w_X9_addWord_50 l hinj hZ C out c0 i0 (f_X9_addWord_3 c0 N) ih N) x1 x2 S H locs ls hf hw (lv_sub hl [1, 2, 3] rfl)
      · refine lv_aload_n C.1.1 C.1.2.1 dX9_addWord_19 rfl (lv_at hl 1 rfl) ?_
        refine r_getI (k := 1) C hw (is9_s i0) (is9_l i0) cO9 rfl (by decide) tw1_44 rfl dX9_addWord_20 hf (fun v20 hf => ?_)
        refine r_sipush (v := 400) C dX9_addWord_23 (by decide) ?_
        refine r_icmp_ge C (tgt := 50) dX9_addWord_26 (by decide) hf (fun hf => ?_) (fun hf => ?_)
        · exact (w_X9_addWord_50 l hinj hZ C out c0 i0 (f_X9_addWord_3 c0 N) ih N) x1 x2 S H locs ls hf hw (lv_sub hl [1, 2, 3] rfl)
        · refine lv_aload_n C.1.1 C.1.2.1 dX9_addWord_29 rfl (lv_at hl 1 rfl) ?_
          refine r_getR (k := 0) C hw (is9_s i0) (is9_l i0) cO9 rfl (by decide) tw1_43 rfl dX9_addWord_30 ?_
          refine lv_aload_n C.1.1 C.1.2.1 dX9_addWord_33 rfl (lv_at hl 1 rfl) ?_
          refine r_getI (k := 1) C hw (is9_s i0) (is9_l i0) cO9 rfl (by decide) tw1_44 rfl dX9_addWord_34 hf (fun v34 hf => ?_)
          refine lv_iload_n C.1.1 C.1.2.1 dX9_addWord_37 rfl (lv_at hl 0 rfl) ?_
          refine r_i2c C dX9_addWord_38 ?_
          refine r_cast C hw (is9_s1 i0) (is9_l1 i0) (Nat.le_of_ble_eq_true rfl) dX9_addWord_39 hf (fun S39 H locs hf hw => ?_)
          refine lv_aload_n C.1.1 C.1.2.1 dX9_addWord_40 rfl (lv_at hl 1 rfl) ?_
          refine lv_dup C.1.1 C.1.2.1 dX9_addWord_41 rfl ?_
          refine r_getI (k := 1) C hw (is9_s i0) (is9_l i0) cO9 rfl (by decide) tw1_44 rfl dX9_addWord_42 hf (fun v42 hf => ?_)
          refine r_iconst (v := 1) C dX9_addWord_45 ?_
          refine r_iadd C dX9_addWord_46 ?_
          refine r_putI (k := 1) C hw (is9_s i0) (is9_l i0) cO9 rfl (by decide) tw1_44 rfl rfl rfl dX9_addWord_47 hf (fun S47 H locs hf hw => ?_)
          exact (w_X9_addWord_50 l hinj hZ C out c0 i0 (f_X9_addWord_3 c0 N) ih N) x1 x2 S47 H locs ls hf hw (lv_sub hl [1, 2, 3] rfl)
set_option maxRecDepth 100000 in
set_option maxHeartbeats 4000000 in
theorem c_X9_addWord (l : Launch) (X : XT) (hinj : XInj X nC) (hZ : ZOK (Zc X)) (N : Nat) (S : S2) (c0 : Nat) (a1 : Int) (i0 : Is9 c0) (out : S2) (hf : f_X9_addWord N S c0 a1 = some out) : MV l X shC nC (Zc X) yX9_addWord cX9_addWord 4 none rmX9_addWord [.ref (X.2.2 c0), .int (iz a1)] S out := by
  refine met_V (own := RX9) (by decide) rfl hinj hZ (Nat.le_of_ble_eq_true rfl) (fun p e s m args below meth c C ls H locs hw hl => ?_)
  unfold f_X9_addWord at hf
  have hl : lv_has ls 4 [(0, .ref (X.2.2 c0)), (1, .int (iz a1))] := hl
  refine r_bipush (v := 24) C dX9_addWord_0 (by decide) ?_
  refine lv_istore_n (lv' := [(2, .int (iz 24)), (0, .ref (X.2.2 c0)), (1, .int (iz a1))]) C.1.1 C.1.2.1 dX9_addWord_2 rfl hl (by decide) rfl (fun ls hl => ?_)
  exact (w_X9_addWord_3 l hinj hZ C out c0 i0 N) a1 24 S H locs ls hf hw (lv_sub hl [1, 2, 0] rfl)
def f_X9_byteAt (N : Nat) (S : S2) (c0 : Nat) (a1 : Int) : Option (Int × S2) := cI a1 0 (if a1 < 0 then rC 0 S else gI S c0 1 fun v6 => cI a1 v6 (if v6 ≤ a1 then rC 0 S else aI S (c0 + 1) 400 a1 fun v17 => rC v17 S))
abbrev rmX9_byteAt : Room := { frames := 0, cells := 0, slots := 0, locals := 0 }
theorem hd_X9_byteAt : yX9_byteAt.cls ≠ "java/lang/invoke/MethodHandle" ∧ yX9_byteAt.cls ≠ "java/lang/invoke/VarHandle" ∧ (parseMethodDescriptor yX9_byteAt.desc).map (fun d => d.parameters.length) = some 1 := by decide +kernel
set_option maxRecDepth 100000 in
set_option maxHeartbeats 4000000 in
theorem c_X9_byteAt (l : Launch) (X : XT) (hinj : XInj X nC) (hZ : ZOK (Zc X)) (N : Nat) (S : S2) (c0 : Nat) (a1 : Int) (i0 : Is9 c0) (out : Int × S2) (hf : f_X9_byteAt N S c0 a1 = some out) : MI l X shC nC (Zc X) yX9_byteAt cX9_byteAt 2 (some .char) rmX9_byteAt [.ref (X.2.2 c0), .int (iz a1)] S out := by
  refine met_I (own := RX9) (by decide) rfl hinj hZ (Nat.le_of_ble_eq_true rfl) (fun p e s m args below meth c C ls H locs hw hl => ?_)
  unfold f_X9_byteAt at hf
  have hl : lv_has ls 2 [(0, .ref (X.2.2 c0)), (1, .int (iz a1))] := hl
  refine lv_iload_n C.1.1 C.1.2.1 dX9_byteAt_0 rfl (lv_at hl 1 rfl) ?_
  refine r_if_lt C (tgt := 21) dX9_byteAt_1 (by decide) hf (fun hf => ?_) (fun hf => ?_)
  · refine r_iconst (v := 0) C dX9_byteAt_21 ?_
    exact r_retC C hw dX9_byteAt_22 hf
  · refine lv_iload_n C.1.1 C.1.2.1 dX9_byteAt_4 rfl (lv_at hl 1 rfl) ?_
    refine lv_aload_n C.1.1 C.1.2.1 dX9_byteAt_5 rfl (lv_at hl 0 rfl) ?_
    refine r_getI (k := 1) C hw (is9_s i0) (is9_l i0) cO9 rfl (by decide) tw1_44 rfl dX9_byteAt_6 hf (fun v6 hf => ?_)
    refine r_icmp_ge C (tgt := 21) dX9_byteAt_9 (by decide) hf (fun hf => ?_) (fun hf => ?_)
    · refine r_iconst (v := 0) C dX9_byteAt_21 ?_
      exact r_retC C hw dX9_byteAt_22 hf
    · refine lv_aload_n C.1.1 C.1.2.1 dX9_byteAt_12 rfl (lv_at hl 0 rfl) ?_
      refine r_getR (k := 0) C hw (is9_s i0) (is9_l i0) cO9 rfl (by decide) tw1_43 rfl dX9_byteAt_13 ?_
      refine lv_iload_n C.1.1 C.1.2.1 dX9_byteAt_16 rfl (lv_at hl 1 rfl) ?_
      refine r_cald C hw (is9_s1 i0) (is9_l1 i0) (Nat.le_of_ble_eq_true rfl) dX9_byteAt_17 hf (fun v17 hf => ?_)
      refine lv_goto (tgt := 22) C.1.1 C.1.2.1 dX9_byteAt_18 (by decide) ?_
      exact r_retC C hw dX9_byteAt_22 hf
def f_X9_isDigit (N : Nat) (S : S2) (c0 : Nat) (a1 : Int) : Option (Int × S2) := bI (f_X9_byteAt N S c0 a1) fun v2 S2 => cI v2 48 (if v2 < 48 then rZ 0 S2 else cI v2 57 (if 57 < v2 then rZ 0 S2 else rZ 1 S2))
abbrev rmX9_isDigit : Room := { frames := 1, cells := 0, slots := 0, locals := 21 }
theorem hd_X9_isDigit : yX9_isDigit.cls ≠ "java/lang/invoke/MethodHandle" ∧ yX9_isDigit.cls ≠ "java/lang/invoke/VarHandle" ∧ (parseMethodDescriptor yX9_isDigit.desc).map (fun d => d.parameters.length) = some 1 := by decide +kernel
set_option maxRecDepth 100000 in
set_option maxHeartbeats 4000000 in
theorem c_X9_isDigit (l : Launch) (X : XT) (hinj : XInj X nC) (hZ : ZOK (Zc X)) (N : Nat) (S : S2) (c0 : Nat) (a1 : Int) (i0 : Is9 c0) (out : Int × S2) (hf : f_X9_isDigit N S c0 a1 = some out) : MI l X shC nC (Zc X) yX9_isDigit cX9_isDigit 3 (some .boolean) rmX9_isDigit [.ref (X.2.2 c0), .int (iz a1)] S out := by
  refine met_I (own := RX9) (by decide) rfl hinj hZ (Nat.le_of_ble_eq_true rfl) (fun p e s m args below meth c C ls H locs hw hl => ?_)
  unfold f_X9_isDigit at hf
  have hl : lv_has ls 3 [(0, .ref (X.2.2 c0)), (1, .int (iz a1))] := hl
  refine lv_aload_n C.1.1 C.1.2.1 dX9_isDigit_0 rfl (lv_at hl 0 rfl) ?_
  refine lv_iload_n C.1.1 C.1.2.1 dX9_isDigit_1 rfl (lv_at hl 1 rfl) ?_
  refine r_callI (As := [.int (iz a1)]) (rest := []) (rm := rmX9_byteAt) C hw (is9_s i0) (is9_l i0) cO9 tw2_151 tw2_144 tw2_145 tw1_3 tw2_146 hd_X9_byteAt rfl ⟨⟨rfl, rfl⟩, Nat.le_of_ble_eq_true rfl, Nat.le_of_ble_eq_true rfl⟩ hl.1 rfl (Nat.le_of_ble_eq_true rfl) dX9_isDigit_2 hf (fun o ho => c_X9_byteAt l X hinj hZ N S c0 a1 i0 o ho) (fun v2 S2 H locs hf hw => ?_)
  refine lv_istore_n (lv' := [(2, .int (iz v2)), (0, .ref (X.2.2 c0)), (1, .int (iz a1))]) C.1.1 C.1.2.1 dX9_isDigit_5 rfl hl (by decide) rfl (fun ls hl => ?_)
  refine lv_iload_n C.1.1 C.1.2.1 dX9_isDigit_6 rfl (lv_at hl 0 rfl) ?_
  refine r_bipush (v := 48) C dX9_isDigit_7 (by decide) ?_
  refine r_icmp_lt C (tgt := 22) dX9_isDigit_9 (by decide) hf (fun hf => ?_) (fun hf => ?_)
  · refine r_iconst (v := 0) C dX9_isDigit_22 ?_
    exact r_retZ C hw dX9_isDigit_23 hf
  · refine lv_iload_n C.1.1 C.1.2.1 dX9_isDigit_12 rfl (lv_at hl 0 rfl) ?_
    refine r_bipush (v := 57) C dX9_isDigit_13 (by decide) ?_
    refine r_icmp_gt C (tgt := 22) dX9_isDigit_15 (by decide) hf (fun hf => ?_) (fun hf => ?_)
    · refine r_iconst (v := 0) C dX9_isDigit_22 ?_
      exact r_retZ C hw dX9_isDigit_23 hf
    · refine r_iconst (v := 1) C dX9_isDigit_18 ?_
      refine lv_goto (tgt := 23) C.1.1 C.1.2.1 dX9_isDigit_19 (by decide) ?_
      exact r_retZ C hw dX9_isDigit_23 hf
def f_X9_isLetter (N : Nat) (S : S2) (c0 : Nat) (a1 : Int) : Option (Int × S2) := bI (f_X9_byteAt N S c0 a1) fun v2 S2 => cI v2 97 (if v2 < 97 then rZ 0 S2 else cI v2 122 (if 122 < v2 then rZ 0 S2 else rZ 1 S2))
abbrev rmX9_isLetter : Room := { frames := 1, cells := 0, slots := 0, locals := 21 }
theorem hd_X9_isLetter : yX9_isLetter.cls ≠ "java/lang/invoke/MethodHandle" ∧ yX9_isLetter.cls ≠ "java/lang/invoke/VarHandle" ∧ (parseMethodDescriptor yX9_isLetter.desc).map (fun d => d.parameters.length) = some 1 := by decide +kernel
set_option maxRecDepth 100000 in
set_option maxHeartbeats 4000000 in
theorem c_X9_isLetter (l : Launch) (X : XT) (hinj : XInj X nC) (hZ : ZOK (Zc X)) (N : Nat) (S : S2) (c0 : Nat) (a1 : Int) (i0 : Is9 c0) (out : Int × S2) (hf : f_X9_isLetter N S c0 a1 = some out) : MI l X shC nC (Zc X) yX9_isLetter cX9_isLetter 3 (some .boolean) rmX9_isLetter [.ref (X.2.2 c0), .int (iz a1)] S out := by
  refine met_I (own := RX9) (by decide) rfl hinj hZ (Nat.le_of_ble_eq_true rfl) (fun p e s m args below meth c C ls H locs hw hl => ?_)
  unfold f_X9_isLetter at hf
  have hl : lv_has ls 3 [(0, .ref (X.2.2 c0)), (1, .int (iz a1))] := hl
  refine lv_aload_n C.1.1 C.1.2.1 dX9_isLetter_0 rfl (lv_at hl 0 rfl) ?_
  refine lv_iload_n C.1.1 C.1.2.1 dX9_isLetter_1 rfl (lv_at hl 1 rfl) ?_
  refine r_callI (As := [.int (iz a1)]) (rest := []) (rm := rmX9_byteAt) C hw (is9_s i0) (is9_l i0) cO9 tw2_151 tw2_144 tw2_145 tw1_3 tw2_146 hd_X9_byteAt rfl ⟨⟨rfl, rfl⟩, Nat.le_of_ble_eq_true rfl, Nat.le_of_ble_eq_true rfl⟩ hl.1 rfl (Nat.le_of_ble_eq_true rfl) dX9_isLetter_2 hf (fun o ho => c_X9_byteAt l X hinj hZ N S c0 a1 i0 o ho) (fun v2 S2 H locs hf hw => ?_)
  refine lv_istore_n (lv' := [(2, .int (iz v2)), (0, .ref (X.2.2 c0)), (1, .int (iz a1))]) C.1.1 C.1.2.1 dX9_isLetter_5 rfl hl (by decide) rfl (fun ls hl => ?_)
  refine lv_iload_n C.1.1 C.1.2.1 dX9_isLetter_6 rfl (lv_at hl 0 rfl) ?_
  refine r_bipush (v := 97) C dX9_isLetter_7 (by decide) ?_
  refine r_icmp_lt C (tgt := 22) dX9_isLetter_9 (by decide) hf (fun hf => ?_) (fun hf => ?_)
  · refine r_iconst (v := 0) C dX9_isLetter_22 ?_
    exact r_retZ C hw dX9_isLetter_23 hf
  · refine lv_iload_n C.1.1 C.1.2.1 dX9_isLetter_12 rfl (lv_at hl 0 rfl) ?_
    refine r_bipush (v := 122) C dX9_isLetter_13 (by decide) ?_
    refine r_icmp_gt C (tgt := 22) dX9_isLetter_15 (by decide) hf (fun hf => ?_) (fun hf => ?_)
    · refine r_iconst (v := 0) C dX9_isLetter_22 ?_
      exact r_retZ C hw dX9_isLetter_23 hf
    · refine r_iconst (v := 1) C dX9_isLetter_18 ?_
      refine lv_goto (tgt := 23) C.1.1 C.1.2.1 dX9_isLetter_19 (by decide) ?_
      exact r_retZ C hw dX9_isLetter_23 hf
def f_X10_feed (N : Nat) (S : S2) (a1 : Int) (a2 : Int) (a3 : Int) (a4 : Int) (a5 : Int) : Option (Int × S2) := bI (f_X10_bytesIn N S a1) fun v1 S1 => bI (f_X10_bytesIn N S1 a2) fun v5 S5 => bI (f_X10_bytesIn N S5 a3) fun v10 S10 => bI (f_X10_bytesIn N S10 a4) fun v16 S16 => bI (f_X10_bytesIn N S16 a5) fun v22 S22 => gI S22 2 1 fun v37 => cI ((((v1 + v5) + v10) + v16) + v22) (400 - v37) (if ((((v1 + v5) + v10) + v16) + v22) ≤ (400 - v37) then bV (f_X9_addWord N S22 2 a1) fun S51 => bV (f_X9_addWord N S51 2 a2) fun S59 => bV (f_X9_addWord N S59 2 a3) fun S67 => bV (f_X9_addWord N S67 2 a4) fun S76 => bV (f_X9_addWord N S76 2 a5) fun S85 => gI S85 2 1 fun v92 => rI v92 S85 else rI (-1) S22)
abbrev rmX10_feed : Room := { frames := 1, cells := 0, slots := 0, locals := 23 }
theorem hd_X10_feed : yX10_feed.cls ≠ "java/lang/invoke/MethodHandle" ∧ yX10_feed.cls ≠ "java/lang/invoke/VarHandle" ∧ (parseMethodDescriptor yX10_feed.desc).map (fun d => d.parameters.length) = some 5 := by decide +kernel
set_option maxRecDepth 100000 in
set_option maxHeartbeats 4000000 in
theorem c_X10_feed (l : Launch) (X : XT) (hinj : XInj X nC) (hZ : ZOK (Zc X)) (N : Nat) (S : S2) (a1 : Int) (a2 : Int) (a3 : Int) (a4 : Int) (a5 : Int) (out : Int × S2) (hf : f_X10_feed N S a1 a2 a3 a4 a5 = some out) : MI l X shC nC (Zc X) yX10_feed cX10_feed 7 (some .int) rmX10_feed [.ref (X.2.2 0), .int (iz a1), .int (iz a2), .int (iz a3), .int (iz a4), .int (iz a5)] S out := by
  refine met_I (own := RX10) (by decide) rfl hinj hZ (Nat.le_of_ble_eq_true rfl) (fun p e s m args below meth c C ls H locs hw hl => ?_)
  unfold f_X10_feed at hf
  have hl : lv_has ls 7 [(0, .ref (X.2.2 0)), (1, .int (iz a1)), (2, .int (iz a2)), (3, .int (iz a3)), (4, .int (iz a4)), (5, .int (iz a5))] := hl
  refine lv_iload_n C.1.1 C.1.2.1 dX10_feed_0 rfl (lv_at hl 1 rfl) ?_
  refine r_scallI (As := [.int (iz a1)]) (rest := []) (rm := rmX10_bytesIn) C hw tw2_108 tw2_109 tw1_1 tw2_110 hd_X10_bytesIn rfl ⟨⟨rfl, rfl⟩, Nat.le_of_ble_eq_true rfl, Nat.le_of_ble_eq_true rfl⟩ hl.1 rfl (Nat.le_of_ble_eq_true rfl) dX10_feed_1 hf (fun o ho => c_X10_bytesIn l X hinj hZ N S a1 o ho) (fun v1 S1 H locs hf hw => ?_)
  refine lv_iload_n C.1.1 C.1.2.1 dX10_feed_4 rfl (lv_at hl 2 rfl) ?_
  refine r_scallI (As := [.int (iz a2)]) (rest := [.int (iz v1)]) (rm := rmX10_bytesIn) C hw tw2_108 tw2_109 tw1_1 tw2_110 hd_X10_bytesIn rfl ⟨⟨rfl, rfl⟩, Nat.le_of_ble_eq_true rfl, Nat.le_of_ble_eq_true rfl⟩ hl.1 rfl (Nat.le_of_ble_eq_true rfl) dX10_feed_5 hf (fun o ho => c_X10_bytesIn l X hinj hZ N S1 a2 o ho) (fun v5 S5 H locs hf hw => ?_)
  refine r_iadd C dX10_feed_8 ?_
  refine lv_iload_n C.1.1 C.1.2.1 dX10_feed_9 rfl (lv_at hl 3 rfl) ?_
  refine r_scallI (As := [.int (iz a3)]) (rest := [.int (iz (v1 + v5))]) (rm := rmX10_bytesIn) C hw tw2_108 tw2_109 tw1_1 tw2_110 hd_X10_bytesIn rfl ⟨⟨rfl, rfl⟩, Nat.le_of_ble_eq_true rfl, Nat.le_of_ble_eq_true rfl⟩ hl.1 rfl (Nat.le_of_ble_eq_true rfl) dX10_feed_10 hf (fun o ho => c_X10_bytesIn l X hinj hZ N S5 a3 o ho) (fun v10 S10 H locs hf hw => ?_)
  refine r_iadd C dX10_feed_13 ?_
  refine lv_iload C.1.1 C.1.2.1 dX10_feed_14 (lv_at hl 4 rfl) ?_
  refine r_scallI (As := [.int (iz a4)]) (rest := [.int (iz ((v1 + v5) + v10))]) (rm := rmX10_bytesIn) C hw tw2_108 tw2_109 tw1_1 tw2_110 hd_X10_bytesIn rfl ⟨⟨rfl, rfl⟩, Nat.le_of_ble_eq_true rfl, Nat.le_of_ble_eq_true rfl⟩ hl.1 rfl (Nat.le_of_ble_eq_true rfl) dX10_feed_16 hf (fun o ho => c_X10_bytesIn l X hinj hZ N S10 a4 o ho) (fun v16 S16 H locs hf hw => ?_)
  refine r_iadd C dX10_feed_19 ?_
  refine lv_iload C.1.1 C.1.2.1 dX10_feed_20 (lv_at hl 5 rfl) ?_
  refine r_scallI (As := [.int (iz a5)]) (rest := [.int (iz (((v1 + v5) + v10) + v16))]) (rm := rmX10_bytesIn) C hw tw2_108 tw2_109 tw1_1 tw2_110 hd_X10_bytesIn rfl ⟨⟨rfl, rfl⟩, Nat.le_of_ble_eq_true rfl, Nat.le_of_ble_eq_true rfl⟩ hl.1 rfl (Nat.le_of_ble_eq_true rfl) dX10_feed_22 hf (fun o ho => c_X10_bytesIn l X hinj hZ N S16 a5 o ho) (fun v22 S22 H locs hf hw => ?_)
  refine r_iadd C dX10_feed_25 ?_
  refine lv_istore (lv' := [(6, .int (iz ((((v1 + v5) + v10) + v16) + v22))), (0, .ref (X.2.2 0)), (1, .int (iz a1)), (2, .int (iz a2)), (3, .int (iz a3)), (4, .int (iz a4)), (5, .int (iz a5))]) C.1.1 C.1.2.1 dX10_feed_26 hl (by decide) rfl (fun ls hl => ?_)
  refine lv_iload C.1.1 C.1.2.1 dX10_feed_28 (lv_at hl 0 rfl) ?_
  refine r_sipush (v := 400) C dX10_feed_30 (by decide) ?_
  refine lv_aload_n C.1.1 C.1.2.1 dX10_feed_33 rfl (lv_at hl 1 rfl) ?_
  refine r_getR (k := 1) C hw shC_0 ltC_0 cO10 rfl (by decide) tw2_47 rfl dX10_feed_34 ?_
  refine r_getI (k := 1) C hw (is9_s is9_at2) (is9_l is9_at2) cO9 rfl (by decide) tw1_45 rfl dX10_feed_37 hf (fun v37 hf => ?_)
  refine r_isub C dX10_feed_40 ?_
  refine r_icmp_le C (tgt := 46) dX10_feed_41 (by decide) hf (fun hf => ?_) (fun hf => ?_)
  · refine lv_aload_n C.1.1 C.1.2.1 dX10_feed_46 rfl (lv_at hl 1 rfl) ?_
    refine r_getR (k := 1) C hw shC_0 ltC_0 cO10 rfl (by decide) tw2_47 rfl dX10_feed_47 ?_
    refine lv_iload_n C.1.1 C.1.2.1 dX10_feed_50 rfl (lv_at hl 2 rfl) ?_
    refine r_callV (As := [.int (iz a1)]) (rest := []) (rm := rmX9_addWord) C hw (is9_s is9_at2) (is9_l is9_at2) cO9 tw2_111 tw2_112 tw2_113 tw1_3 tw2_114 hd_X9_addWord rfl ⟨⟨rfl, rfl⟩, Nat.le_of_ble_eq_true rfl, Nat.le_of_ble_eq_true rfl⟩ hl.1 rfl (Nat.le_of_ble_eq_true rfl) dX10_feed_51 hf (fun o ho => c_X9_addWord l X hinj hZ N S22 2 a1 is9_at2 o ho) (fun S51 H locs hf hw => ?_)
    refine lv_aload_n C.1.1 C.1.2.1 dX10_feed_54 rfl (lv_at hl 1 rfl) ?_
    refine r_getR (k := 1) C hw shC_0 ltC_0 cO10 rfl (by decide) tw2_47 rfl dX10_feed_55 ?_
    refine lv_iload_n C.1.1 C.1.2.1 dX10_feed_58 rfl (lv_at hl 3 rfl) ?_
    refine r_callV (As := [.int (iz a2)]) (rest := []) (rm := rmX9_addWord) C hw (is9_s is9_at2) (is9_l is9_at2) cO9 tw2_111 tw2_112 tw2_113 tw1_3 tw2_114 hd_X9_addWord rfl ⟨⟨rfl, rfl⟩, Nat.le_of_ble_eq_true rfl, Nat.le_of_ble_eq_true rfl⟩ hl.1 rfl (Nat.le_of_ble_eq_true rfl) dX10_feed_59 hf (fun o ho => c_X9_addWord l X hinj hZ N S51 2 a2 is9_at2 o ho) (fun S59 H locs hf hw => ?_)
    refine lv_aload_n C.1.1 C.1.2.1 dX10_feed_62 rfl (lv_at hl 1 rfl) ?_
    refine r_getR (k := 1) C hw shC_0 ltC_0 cO10 rfl (by decide) tw2_47 rfl dX10_feed_63 ?_
    refine lv_iload_n C.1.1 C.1.2.1 dX10_feed_66 rfl (lv_at hl 4 rfl) ?_
    refine r_callV (As := [.int (iz a3)]) (rest := []) (rm := rmX9_addWord) C hw (is9_s is9_at2) (is9_l is9_at2) cO9 tw2_111 tw2_112 tw2_113 tw1_3 tw2_114 hd_X9_addWord rfl ⟨⟨rfl, rfl⟩, Nat.le_of_ble_eq_true rfl, Nat.le_of_ble_eq_true rfl⟩ hl.1 rfl (Nat.le_of_ble_eq_true rfl) dX10_feed_67 hf (fun o ho => c_X9_addWord l X hinj hZ N S59 2 a3 is9_at2 o ho) (fun S67 H locs hf hw => ?_)
    refine lv_aload_n C.1.1 C.1.2.1 dX10_feed_70 rfl (lv_at hl 1 rfl) ?_
    refine r_getR (k := 1) C hw shC_0 ltC_0 cO10 rfl (by decide) tw2_47 rfl dX10_feed_71 ?_
    refine lv_iload C.1.1 C.1.2.1 dX10_feed_74 (lv_at hl 5 rfl) ?_
    refine r_callV (As := [.int (iz a4)]) (rest := []) (rm := rmX9_addWord) C hw (is9_s is9_at2) (is9_l is9_at2) cO9 tw2_111 tw2_112 tw2_113 tw1_3 tw2_114 hd_X9_addWord rfl ⟨⟨rfl, rfl⟩, Nat.le_of_ble_eq_true rfl, Nat.le_of_ble_eq_true rfl⟩ hl.1 rfl (Nat.le_of_ble_eq_true rfl) dX10_feed_76 hf (fun o ho => c_X9_addWord l X hinj hZ N S67 2 a4 is9_at2 o ho) (fun S76 H locs hf hw => ?_)
    refine lv_aload_n C.1.1 C.1.2.1 dX10_feed_79 rfl (lv_at hl 1 rfl) ?_
    refine r_getR (k := 1) C hw shC_0 ltC_0 cO10 rfl (by decide) tw2_47 rfl dX10_feed_80 ?_
    refine lv_iload C.1.1 C.1.2.1 dX10_feed_83 (lv_at hl 6 rfl) ?_
    refine r_callV (As := [.int (iz a5)]) (rest := []) (rm := rmX9_addWord) C hw (is9_s is9_at2) (is9_l is9_at2) cO9 tw2_111 tw2_112 tw2_113 tw1_3 tw2_114 hd_X9_addWord rfl ⟨⟨rfl, rfl⟩, Nat.le_of_ble_eq_true rfl, Nat.le_of_ble_eq_true rfl⟩ hl.1 rfl (Nat.le_of_ble_eq_true rfl) dX10_feed_85 hf (fun o ho => c_X9_addWord l X hinj hZ N S76 2 a5 is9_at2 o ho) (fun S85 H locs hf hw => ?_)
    refine lv_aload_n C.1.1 C.1.2.1 dX10_feed_88 rfl (lv_at hl 1 rfl) ?_
    refine r_getR (k := 1) C hw shC_0 ltC_0 cO10 rfl (by decide) tw2_47 rfl dX10_feed_89 ?_
    refine r_getI (k := 1) C hw (is9_s is9_at2) (is9_l is9_at2) cO9 rfl (by decide) tw1_45 rfl dX10_feed_92 hf (fun v92 hf => ?_)
    exact r_retI C hw dX10_feed_95 hf
  · refine r_iconst (v := (-1)) C dX10_feed_44 ?_
    exact r_retI C hw dX10_feed_45 hf
def f_X10_takeScript (N : Nat) (S : S2) : Option (Int × S2) := gI S 0 8 fun v5 => aR 4 v5 fun j8 => bV (f_X7_copyFrom N S ((fun j => 32 + 4 * j) j8) 75) fun S13 => gI S13 0 8 fun v18 => uI S13 0 8 (v18 + 1) fun S23 => uI S23 2 1 0 fun S31 => gI S31 0 8 fun v35 => rI (v35 - 1) S31
abbrev rmX10_takeScript : Room := { frames := 2, cells := 0, slots := 0, locals := 47 }
theorem hd_X10_takeScript : yX10_takeScript.cls ≠ "java/lang/invoke/MethodHandle" ∧ yX10_takeScript.cls ≠ "java/lang/invoke/VarHandle" ∧ (parseMethodDescriptor yX10_takeScript.desc).map (fun d => d.parameters.length) = some 0 := by decide +kernel
set_option maxRecDepth 100000 in
set_option maxHeartbeats 4000000 in
theorem c_X10_takeScript (l : Launch) (X : XT) (hinj : XInj X nC) (hZ : ZOK (Zc X)) (N : Nat) (S : S2) (out : Int × S2) (hf : f_X10_takeScript N S = some out) : MI l X shC nC (Zc X) yX10_takeScript cX10_takeScript 1 (some .int) rmX10_takeScript [.ref (X.2.2 0)] S out := by
  refine met_I (own := RX10) (by decide) rfl hinj hZ (Nat.le_of_ble_eq_true rfl) (fun p e s m args below meth c C ls H locs hw hl => ?_)
  unfold f_X10_takeScript at hf
  have hl : lv_has ls 1 [(0, .ref (X.2.2 0))] := hl
  refine lv_aload_n C.1.1 C.1.2.1 dX10_takeScript_0 rfl (lv_at hl 0 rfl) ?_
  refine r_getR (k := 7) C hw shC_0 ltC_0 cO10 rfl (by decide) tw2_53 rfl dX10_takeScript_1 ?_
  refine lv_aload_n C.1.1 C.1.2.1 dX10_takeScript_4 rfl (lv_at hl 0 rfl) ?_
  refine r_getI (k := 8) C hw shC_0 ltC_0 cO10 rfl (by decide) tw2_54 rfl dX10_takeScript_5 hf (fun v5 hf => ?_)
  refine r_aald C hw shC_31 rfl ltC_31 (Nat.le_of_ble_eq_true rfl) dX10_takeScript_8 hf (fun j8 hj8 hf => ?_)
  refine lv_aload_n C.1.1 C.1.2.1 dX10_takeScript_9 rfl (lv_at hl 0 rfl) ?_
  refine r_getR (k := 16) C hw shC_0 ltC_0 cO10 rfl (by decide) tw2_62 rfl dX10_takeScript_10 ?_
  refine r_callV (As := [.ref (X.2.2 75)]) (rest := []) (rm := rmX7_copyFrom) C hw (is7_s (is7_el hj8)) (is7_l (is7_el hj8)) cO7 tw3_124 tw3_125 tw3_126 tw1_9 tw3_127 hd_X7_copyFrom rfl ⟨⟨rfl, rfl⟩, Nat.le_of_ble_eq_true rfl, Nat.le_of_ble_eq_true rfl⟩ hl.1 rfl (Nat.le_of_ble_eq_true rfl) dX10_takeScript_13 hf (fun o ho => c_X7_copyFrom l X hinj hZ N S ((fun j => 32 + 4 * j) j8) 75 (is7_el hj8) is7_at75 o ho) (fun S13 H locs hf hw => ?_)
  refine lv_aload_n C.1.1 C.1.2.1 dX10_takeScript_16 rfl (lv_at hl 0 rfl) ?_
  refine lv_dup C.1.1 C.1.2.1 dX10_takeScript_17 rfl ?_
  refine r_getI (k := 8) C hw shC_0 ltC_0 cO10 rfl (by decide) tw2_54 rfl dX10_takeScript_18 hf (fun v18 hf => ?_)
  refine r_iconst (v := 1) C dX10_takeScript_21 ?_
  refine r_iadd C dX10_takeScript_22 ?_
  refine r_putI (k := 8) C hw shC_0 ltC_0 cO10 rfl (by decide) tw2_54 rfl rfl rfl dX10_takeScript_23 hf (fun S23 H locs hf hw => ?_)
  refine lv_aload_n C.1.1 C.1.2.1 dX10_takeScript_26 rfl (lv_at hl 0 rfl) ?_
  refine r_getR (k := 1) C hw shC_0 ltC_0 cO10 rfl (by decide) tw2_47 rfl dX10_takeScript_27 ?_
  refine r_iconst (v := 0) C dX10_takeScript_30 ?_
  refine r_putI (k := 1) C hw (is9_s is9_at2) (is9_l is9_at2) cO9 rfl (by decide) tw1_45 rfl rfl rfl dX10_takeScript_31 hf (fun S31 H locs hf hw => ?_)
  refine lv_aload_n C.1.1 C.1.2.1 dX10_takeScript_34 rfl (lv_at hl 0 rfl) ?_
  refine r_getI (k := 8) C hw shC_0 ltC_0 cO10 rfl (by decide) tw2_54 rfl dX10_takeScript_35 hf (fun v35 hf => ?_)
  refine r_iconst (v := 1) C dX10_takeScript_38 ?_
  refine r_isub C dX10_takeScript_39 ?_
  exact r_retI C hw dX10_takeScript_40 hf
def f_X10_rule (N : Nat) (S : S2) (a1 : Int) : Option (Int × S2) := bI (f_X10_noTrace N S) fun v1 S1 => cI v1 0 (if v1 = 0 then cI a1 0 (if a1 = 0 then gI S1 4 1 fun v60 => rI v60 S1 else (if a1 = 1 then gI S1 4 2 fun v68 => rI v68 S1 else (if a1 = 2 then gI S1 20 1 fun v76 => rI v76 S1 else (if a1 = 3 then gI S1 20 0 fun v84 => rI v84 S1 else (if a1 = 4 then gI S1 6 0 fun v92 => rI v92 S1 else (if a1 = 5 then gI S1 6 1 fun v100 => rI v100 S1 else (if a1 = 6 then bI (f_X0_leastSample N S1 4) fun v108 S108 => rI v108 S108 else (if a1 = 7 then bI (f_X0_sumOfSamples N S1 4) fun v116 S116 => rI v116 S116 else rI (-1) S1)))))))) else rI (-1) S1)
abbrev rmX10_rule : Room := { frames := 2, cells := 0, slots := 0, locals := 43 }
theorem hd_X10_rule : yX10_rule.cls ≠ "java/lang/invoke/MethodHandle" ∧ yX10_rule.cls ≠ "java/lang/invoke/VarHandle" ∧ (parseMethodDescriptor yX10_rule.desc).map (fun d => d.parameters.length) = some 1 := by decide +kernel
set_option maxRecDepth 100000 in
set_option maxHeartbeats 4000000 in
theorem c_X10_rule (l : Launch) (X : XT) (hinj : XInj X nC) (hZ : ZOK (Zc X)) (N : Nat) (S : S2) (a1 : Int) (out : Int × S2) (hf : f_X10_rule N S a1 = some out) : MI l X shC nC (Zc X) yX10_rule cX10_rule 2 (some .int) rmX10_rule [.ref (X.2.2 0), .int (iz a1)] S out := by
  refine met_I (own := RX10) (by decide) rfl hinj hZ (Nat.le_of_ble_eq_true rfl) (fun p e s m args below meth c C ls H locs hw hl => ?_)
  unfold f_X10_rule at hf
  have hl : lv_has ls 2 [(0, .ref (X.2.2 0)), (1, .int (iz a1))] := hl
  refine lv_aload_n C.1.1 C.1.2.1 dX10_rule_0 rfl (lv_at hl 0 rfl) ?_
  refine r_callI (As := []) (rest := []) (rm := rmX10_noTrace) C hw shC_0 ltC_0 cO10 tw3_133 tw3_135 tp_22 tw1_1 tw3_136 hd_X10_noTrace rfl ⟨⟨rfl, rfl⟩, Nat.le_of_ble_eq_true rfl, Nat.le_of_ble_eq_true rfl⟩ hl.1 rfl (Nat.le_of_ble_eq_true rfl) dX10_rule_1 hf (fun o ho => c_X10_noTrace l X hinj hZ N S o ho) (fun v1 S1 H locs hf hw => ?_)
  refine r_if_eq C (tgt := 9) dX10_rule_4 (by decide) hf (fun hf => ?_) (fun hf => ?_)
  · refine lv_iload_n C.1.1 C.1.2.1 dX10_rule_9 rfl (lv_at hl 1 rfl) ?_
    obtain ⟨⟨hsw, -⟩, hf⟩ := cI_some hf
    rcases ite_some hf with ⟨hc10_0, hf⟩ | ⟨hc10_0, hf⟩
    · refine lv_tableIn (tgt := 56) C.1.1 C.1.2.1 dX10_rule_10 (by rw [hc10_0]; decide) (by rw [hc10_0]; decide) (by rw [hc10_0]; rfl) (by decide) ?_
      refine lv_aload_n C.1.1 C.1.2.1 dX10_rule_56 rfl (lv_at hl 0 rfl) ?_
      refine r_getR (k := 2) C hw shC_0 ltC_0 cO10 rfl (by decide) tw2_48 rfl dX10_rule_57 ?_
      refine r_getI (k := 1) C hw (is0_s is0_at4) (is0_l is0_at4) cO0 rfl (by decide) tw1_92 rfl dX10_rule_60 hf (fun v60 hf => ?_)
      exact r_retI C hw dX10_rule_63 hf
    · skip
      rcases ite_some hf with ⟨hc10_1, hf⟩ | ⟨hc10_1, hf⟩
      · refine lv_tableIn (tgt := 64) C.1.1 C.1.2.1 dX10_rule_10 (by rw [hc10_1]; decide) (by rw [hc10_1]; decide) (by rw [hc10_1]; rfl) (by decide) ?_
        refine lv_aload_n C.1.1 C.1.2.1 dX10_rule_64 rfl (lv_at hl 0 rfl) ?_
        refine r_getR (k := 2) C hw shC_0 ltC_0 cO10 rfl (by decide) tw2_48 rfl dX10_rule_65 ?_
        refine r_getI (k := 2) C hw (is0_s is0_at4) (is0_l is0_at4) cO0 rfl (by decide) tw1_96 rfl dX10_rule_68 hf (fun v68 hf => ?_)
        exact r_retI C hw dX10_rule_71 hf
      · skip
        rcases ite_some hf with ⟨hc10_2, hf⟩ | ⟨hc10_2, hf⟩
        · refine lv_tableIn (tgt := 72) C.1.1 C.1.2.1 dX10_rule_10 (by rw [hc10_2]; decide) (by rw [hc10_2]; decide) (by rw [hc10_2]; rfl) (by decide) ?_
          refine lv_aload_n C.1.1 C.1.2.1 dX10_rule_72 rfl (lv_at hl 0 rfl) ?_
          refine r_getR (k := 4) C hw shC_0 ltC_0 cO10 rfl (by decide) tw2_50 rfl dX10_rule_73 ?_
          refine r_getI (k := 1) C hw (is3_s is3_at20) (is3_l is3_at20) cO3 rfl (by decide) tw1_171 rfl dX10_rule_76 hf (fun v76 hf => ?_)
          exact r_retI C hw dX10_rule_79 hf
        · skip
          rcases ite_some hf with ⟨hc10_3, hf⟩ | ⟨hc10_3, hf⟩
          · refine lv_tableIn (tgt := 80) C.1.1 C.1.2.1 dX10_rule_10 (by rw [hc10_3]; decide) (by rw [hc10_3]; decide) (by rw [hc10_3]; rfl) (by decide) ?_
            refine lv_aload_n C.1.1 C.1.2.1 dX10_rule_80 rfl (lv_at hl 0 rfl) ?_
            refine r_getR (k := 4) C hw shC_0 ltC_0 cO10 rfl (by decide) tw2_50 rfl dX10_rule_81 ?_
            refine r_getI (k := 0) C hw (is3_s is3_at20) (is3_l is3_at20) cO3 rfl (by decide) tw1_168 rfl dX10_rule_84 hf (fun v84 hf => ?_)
            exact r_retI C hw dX10_rule_87 hf
          · skip
            rcases ite_some hf with ⟨hc10_4, hf⟩ | ⟨hc10_4, hf⟩
            · refine lv_tableIn (tgt := 88) C.1.1 C.1.2.1 dX10_rule_10 (by rw [hc10_4]; decide) (by rw [hc10_4]; decide) (by rw [hc10_4]; rfl) (by decide) ?_
              refine lv_aload_n C.1.1 C.1.2.1 dX10_rule_88 rfl (lv_at hl 0 rfl) ?_
              refine r_getR (k := 3) C hw shC_0 ltC_0 cO10 rfl (by decide) tw2_49 rfl dX10_rule_89 ?_
              refine r_getI (k := 0) C hw (is5_s is5_at6) (is5_l is5_at6) cO5 rfl (by decide) tw1_112 rfl dX10_rule_92 hf (fun v92 hf => ?_)
              exact r_retI C hw dX10_rule_95 hf
            · skip
              rcases ite_some hf with ⟨hc10_5, hf⟩ | ⟨hc10_5, hf⟩
              · refine lv_tableIn (tgt := 96) C.1.1 C.1.2.1 dX10_rule_10 (by rw [hc10_5]; decide) (by rw [hc10_5]; decide) (by rw [hc10_5]; rfl) (by decide) ?_
                refine lv_aload_n C.1.1 C.1.2.1 dX10_rule_96 rfl (lv_at hl 0 rfl) ?_
                refine r_getR (k := 3) C hw shC_0 ltC_0 cO10 rfl (by decide) tw2_49 rfl dX10_rule_97 ?_
                refine r_getI (k := 1) C hw (is5_s is5_at6) (is5_l is5_at6) cO5 rfl (by decide) tw1_115 rfl dX10_rule_100 hf (fun v100 hf => ?_)
                exact r_retI C hw dX10_rule_103 hf
              · skip
                rcases ite_some hf with ⟨hc10_6, hf⟩ | ⟨hc10_6, hf⟩
                · refine lv_tableIn (tgt := 104) C.1.1 C.1.2.1 dX10_rule_10 (by rw [hc10_6]; decide) (by rw [hc10_6]; decide) (by rw [hc10_6]; rfl) (by decide) ?_
                  refine lv_aload_n C.1.1 C.1.2.1 dX10_rule_104 rfl (lv_at hl 0 rfl) ?_
                  refine r_getR (k := 2) C hw shC_0 ltC_0 cO10 rfl (by decide) tw2_48 rfl dX10_rule_105 ?_
                  refine r_callI (As := []) (rest := []) (rm := rmX0_leastSample) C hw (is0_s is0_at4) (is0_l is0_at4) cO0 tw3_137 tw3_138 tw3_139 tw1_4 tw3_140 hd_X0_leastSample rfl ⟨⟨rfl, rfl⟩, Nat.le_of_ble_eq_true rfl, Nat.le_of_ble_eq_true rfl⟩ hl.1 rfl (Nat.le_of_ble_eq_true rfl) dX10_rule_108 hf (fun o ho => c_X0_leastSample l X hinj hZ N S1 4 is0_at4 o ho) (fun v108 S108 H locs hf hw => ?_)
                  exact r_retI C hw dX10_rule_111 hf
                · skip
                  rcases ite_some hf with ⟨hc10_7, hf⟩ | ⟨hc10_7, hf⟩
                  · refine lv_tableIn (tgt := 112) C.1.1 C.1.2.1 dX10_rule_10 (by rw [hc10_7]; decide) (by rw [hc10_7]; decide) (by rw [hc10_7]; rfl) (by decide) ?_
                    refine lv_aload_n C.1.1 C.1.2.1 dX10_rule_112 rfl (lv_at hl 0 rfl) ?_
                    refine r_getR (k := 2) C hw shC_0 ltC_0 cO10 rfl (by decide) tw2_48 rfl dX10_rule_113 ?_
                    refine r_callI (As := []) (rest := []) (rm := rmX0_sumOfSamples) C hw (is0_s is0_at4) (is0_l is0_at4) cO0 tw3_142 tw3_143 tw3_144 tw1_4 tw3_145 hd_X0_sumOfSamples rfl ⟨⟨rfl, rfl⟩, Nat.le_of_ble_eq_true rfl, Nat.le_of_ble_eq_true rfl⟩ hl.1 rfl (Nat.le_of_ble_eq_true rfl) dX10_rule_116 hf (fun o ho => c_X0_sumOfSamples l X hinj hZ N S1 4 is0_at4 o ho) (fun v116 S116 H locs hf hw => ?_)
                    exact r_retI C hw dX10_rule_119 hf
                  · skip
                    refine lv_tableOut (tgt := 120) C.1.1 C.1.2.1 dX10_rule_10 (by rw [sw_in hsw]; omega) (by decide) ?_
                    refine r_iconst (v := (-1)) C dX10_rule_120 ?_
                    exact r_retI C hw dX10_rule_121 hf
  · refine r_iconst (v := (-1)) C dX10_rule_7 ?_
    exact r_retI C hw dX10_rule_8 hf
def f_X10_sample (N : Nat) (S : S2) (a1 : Int) : Option (Int × S2) := bI (f_X0_has N S 4 a1) fun v5 S5 => cI v5 0 (if v5 = 0 then rI (-1) S5 else aI S5 (4 + 1) 48 a1 fun v19 => rI v19 S5)
abbrev rmX10_sample : Room := { frames := 1, cells := 0, slots := 0, locals := 21 }
theorem hd_X10_sample : yX10_sample.cls ≠ "java/lang/invoke/MethodHandle" ∧ yX10_sample.cls ≠ "java/lang/invoke/VarHandle" ∧ (parseMethodDescriptor yX10_sample.desc).map (fun d => d.parameters.length) = some 1 := by decide +kernel
set_option maxRecDepth 100000 in
set_option maxHeartbeats 4000000 in
theorem c_X10_sample (l : Launch) (X : XT) (hinj : XInj X nC) (hZ : ZOK (Zc X)) (N : Nat) (S : S2) (a1 : Int) (out : Int × S2) (hf : f_X10_sample N S a1 = some out) : MI l X shC nC (Zc X) yX10_sample cX10_sample 2 (some .int) rmX10_sample [.ref (X.2.2 0), .int (iz a1)] S out := by
  refine met_I (own := RX10) (by decide) rfl hinj hZ (Nat.le_of_ble_eq_true rfl) (fun p e s m args below meth c C ls H locs hw hl => ?_)
  unfold f_X10_sample at hf
  have hl : lv_has ls 2 [(0, .ref (X.2.2 0)), (1, .int (iz a1))] := hl
  refine lv_aload_n C.1.1 C.1.2.1 dX10_sample_0 rfl (lv_at hl 0 rfl) ?_
  refine r_getR (k := 2) C hw shC_0 ltC_0 cO10 rfl (by decide) tw2_48 rfl dX10_sample_1 ?_
  refine lv_iload_n C.1.1 C.1.2.1 dX10_sample_4 rfl (lv_at hl 1 rfl) ?_
  refine r_callI (As := [.int (iz a1)]) (rest := []) (rm := rmX0_has) C hw (is0_s is0_at4) (is0_l is0_at4) cO0 tw3_150 tw3_151 tw3_152 tw1_4 tw3_153 hd_X0_has rfl ⟨⟨rfl, rfl⟩, Nat.le_of_ble_eq_true rfl, Nat.le_of_ble_eq_true rfl⟩ hl.1 rfl (Nat.le_of_ble_eq_true rfl) dX10_sample_5 hf (fun o ho => c_X0_has l X hinj hZ N S 4 a1 is0_at4 o ho) (fun v5 S5 H locs hf hw => ?_)
  refine r_if_eq C (tgt := 23) dX10_sample_8 (by decide) hf (fun hf => ?_) (fun hf => ?_)
  · refine r_iconst (v := (-1)) C dX10_sample_23 ?_
    exact r_retI C hw dX10_sample_24 hf
  · refine lv_aload_n C.1.1 C.1.2.1 dX10_sample_11 rfl (lv_at hl 0 rfl) ?_
    refine r_getR (k := 2) C hw shC_0 ltC_0 cO10 rfl (by decide) tw2_48 rfl dX10_sample_12 ?_
    refine r_getR (k := 0) C hw (is0_s is0_at4) (is0_l is0_at4) cO0 rfl (by decide) tw1_87 rfl dX10_sample_15 ?_
    refine lv_iload_n C.1.1 C.1.2.1 dX10_sample_18 rfl (lv_at hl 1 rfl) ?_
    refine r_iald C hw (is0_s1 is0_at4) (is0_l1 is0_at4) (Nat.le_of_ble_eq_true rfl) dX10_sample_19 hf (fun v19 hf => ?_)
    refine lv_goto (tgt := 24) C.1.1 C.1.2.1 dX10_sample_20 (by decide) ?_
    exact r_retI C hw dX10_sample_24 hf
def f_X10_basin (N : Nat) (S : S2) (a1 : Int) (a2 : Int) : Option (Int × S2) := bI (f_X10_isKept N S a1) fun v2 S2 => cI v2 0 (if v2 = 0 then rI (-1) S2 else cI a2 0 (if a2 = 0 then bI (f_X5_basinStart N S2 6 4 a1) fun v49 S49 => rI v49 S49 else (if a2 = 1 then bI (f_X5_basinEnd N S2 6 4 a1) fun v62 S62 => rI v62 S62 else (if a2 = 2 then bI (f_X5_area N S2 6 4 a1) fun v75 S75 => rI v75 S75 else (if a2 = 3 then bI (f_X5_width N S2 6 4 a1) fun v88 S88 => rI v88 S88 else rI (-1) S2)))))
abbrev rmX10_basin : Room := { frames := 4, cells := 0, slots := 0, locals := 98 }
theorem hd_X10_basin : yX10_basin.cls ≠ "java/lang/invoke/MethodHandle" ∧ yX10_basin.cls ≠ "java/lang/invoke/VarHandle" ∧ (parseMethodDescriptor yX10_basin.desc).map (fun d => d.parameters.length) = some 2 := by decide +kernel
set_option maxRecDepth 100000 in
set_option maxHeartbeats 4000000 in
theorem c_X10_basin (l : Launch) (X : XT) (hinj : XInj X nC) (hZ : ZOK (Zc X)) (N : Nat) (S : S2) (a1 : Int) (a2 : Int) (out : Int × S2) (hf : f_X10_basin N S a1 a2 = some out) : MI l X shC nC (Zc X) yX10_basin cX10_basin 3 (some .int) rmX10_basin [.ref (X.2.2 0), .int (iz a1), .int (iz a2)] S out := by
  refine met_I (own := RX10) (by decide) rfl hinj hZ (Nat.le_of_ble_eq_true rfl) (fun p e s m args below meth c C ls H locs hw hl => ?_)
  unfold f_X10_basin at hf
  have hl : lv_has ls 3 [(0, .ref (X.2.2 0)), (1, .int (iz a1)), (2, .int (iz a2))] := hl
  refine lv_aload_n C.1.1 C.1.2.1 dX10_basin_0 rfl (lv_at hl 0 rfl) ?_
  refine lv_iload_n C.1.1 C.1.2.1 dX10_basin_1 rfl (lv_at hl 1 rfl) ?_
  refine r_callI (As := [.int (iz a1)]) (rest := []) (rm := rmX10_isKept) C hw shC_0 ltC_0 cO10 tw3_158 tw3_160 tp_23 tw1_1 tw3_161 hd_X10_isKept rfl ⟨⟨rfl, rfl⟩, Nat.le_of_ble_eq_true rfl, Nat.le_of_ble_eq_true rfl⟩ hl.1 rfl (Nat.le_of_ble_eq_true rfl) dX10_basin_2 hf (fun o ho => c_X10_isKept l X hinj hZ N S a1 o ho) (fun v2 S2 H locs hf hw => ?_)
  refine r_if_ne C (tgt := 10) dX10_basin_5 (by decide) hf (fun hf => ?_) (fun hf => ?_)
  · refine lv_iload_n C.1.1 C.1.2.1 dX10_basin_10 rfl (lv_at hl 2 rfl) ?_
    obtain ⟨⟨hsw, -⟩, hf⟩ := cI_some hf
    rcases ite_some hf with ⟨hc11_0, hf⟩ | ⟨hc11_0, hf⟩
    · refine lv_tableIn (tgt := 40) C.1.1 C.1.2.1 dX10_basin_11 (by rw [hc11_0]; decide) (by rw [hc11_0]; decide) (by rw [hc11_0]; rfl) (by decide) ?_
      refine lv_aload_n C.1.1 C.1.2.1 dX10_basin_40 rfl (lv_at hl 0 rfl) ?_
      refine r_getR (k := 3) C hw shC_0 ltC_0 cO10 rfl (by decide) tw2_49 rfl dX10_basin_41 ?_
      refine lv_aload_n C.1.1 C.1.2.1 dX10_basin_44 rfl (lv_at hl 0 rfl) ?_
      refine r_getR (k := 2) C hw shC_0 ltC_0 cO10 rfl (by decide) tw2_48 rfl dX10_basin_45 ?_
      refine lv_iload_n C.1.1 C.1.2.1 dX10_basin_48 rfl (lv_at hl 1 rfl) ?_
      refine r_callI (As := [.ref (X.2.2 4), .int (iz a1)]) (rest := []) (rm := rmX5_basinStart) C hw (is5_s is5_at6) (is5_l is5_at6) cO5 tw3_162 tw3_163 tw3_164 tw1_5 tw3_165 hd_X5_basinStart rfl ⟨⟨rfl, rfl⟩, Nat.le_of_ble_eq_true rfl, Nat.le_of_ble_eq_true rfl⟩ hl.1 rfl (Nat.le_of_ble_eq_true rfl) dX10_basin_49 hf (fun o ho => c_X5_basinStart l X hinj hZ N S2 6 4 a1 is5_at6 is0_at4 o ho) (fun v49 S49 H locs hf hw => ?_)
      exact r_retI C hw dX10_basin_52 hf
    · skip
      rcases ite_some hf with ⟨hc11_1, hf⟩ | ⟨hc11_1, hf⟩
      · refine lv_tableIn (tgt := 53) C.1.1 C.1.2.1 dX10_basin_11 (by rw [hc11_1]; decide) (by rw [hc11_1]; decide) (by rw [hc11_1]; rfl) (by decide) ?_
        refine lv_aload_n C.1.1 C.1.2.1 dX10_basin_53 rfl (lv_at hl 0 rfl) ?_
        refine r_getR (k := 3) C hw shC_0 ltC_0 cO10 rfl (by decide) tw2_49 rfl dX10_basin_54 ?_
        refine lv_aload_n C.1.1 C.1.2.1 dX10_basin_57 rfl (lv_at hl 0 rfl) ?_
        refine r_getR (k := 2) C hw shC_0 ltC_0 cO10 rfl (by decide) tw2_48 rfl dX10_basin_58 ?_
        refine lv_iload_n C.1.1 C.1.2.1 dX10_basin_61 rfl (lv_at hl 1 rfl) ?_
        refine r_callI (As := [.ref (X.2.2 4), .int (iz a1)]) (rest := []) (rm := rmX5_basinEnd) C hw (is5_s is5_at6) (is5_l is5_at6) cO5 tw3_175 tw3_176 tw3_177 tw1_5 tw3_178 hd_X5_basinEnd rfl ⟨⟨rfl, rfl⟩, Nat.le_of_ble_eq_true rfl, Nat.le_of_ble_eq_true rfl⟩ hl.1 rfl (Nat.le_of_ble_eq_true rfl) dX10_basin_62 hf (fun o ho => c_X5_basinEnd l X hinj hZ N S2 6 4 a1 is5_at6 is0_at4 o ho) (fun v62 S62 H locs hf hw => ?_)
        exact r_retI C hw dX10_basin_65 hf
      · skip
        rcases ite_some hf with ⟨hc11_2, hf⟩ | ⟨hc11_2, hf⟩
        · refine lv_tableIn (tgt := 66) C.1.1 C.1.2.1 dX10_basin_11 (by rw [hc11_2]; decide) (by rw [hc11_2]; decide) (by rw [hc11_2]; rfl) (by decide) ?_
          refine lv_aload_n C.1.1 C.1.2.1 dX10_basin_66 rfl (lv_at hl 0 rfl) ?_
          refine r_getR (k := 3) C hw shC_0 ltC_0 cO10 rfl (by decide) tw2_49 rfl dX10_basin_67 ?_
          refine lv_aload_n C.1.1 C.1.2.1 dX10_basin_70 rfl (lv_at hl 0 rfl) ?_
          refine r_getR (k := 2) C hw shC_0 ltC_0 cO10 rfl (by decide) tw2_48 rfl dX10_basin_71 ?_
          refine lv_iload_n C.1.1 C.1.2.1 dX10_basin_74 rfl (lv_at hl 1 rfl) ?_
          refine r_callI (As := [.ref (X.2.2 4), .int (iz a1)]) (rest := []) (rm := rmX5_area) C hw (is5_s is5_at6) (is5_l is5_at6) cO5 tw3_179 tw3_180 tw3_181 tw1_5 tw3_182 hd_X5_area rfl ⟨⟨rfl, rfl⟩, Nat.le_of_ble_eq_true rfl, Nat.le_of_ble_eq_true rfl⟩ hl.1 rfl (Nat.le_of_ble_eq_true rfl) dX10_basin_75 hf (fun o ho => c_X5_area l X hinj hZ N S2 6 4 a1 is5_at6 is0_at4 o ho) (fun v75 S75 H locs hf hw => ?_)
          exact r_retI C hw dX10_basin_78 hf
        · skip
          rcases ite_some hf with ⟨hc11_3, hf⟩ | ⟨hc11_3, hf⟩
          · refine lv_tableIn (tgt := 79) C.1.1 C.1.2.1 dX10_basin_11 (by rw [hc11_3]; decide) (by rw [hc11_3]; decide) (by rw [hc11_3]; rfl) (by decide) ?_
            refine lv_aload_n C.1.1 C.1.2.1 dX10_basin_79 rfl (lv_at hl 0 rfl) ?_
            refine r_getR (k := 3) C hw shC_0 ltC_0 cO10 rfl (by decide) tw2_49 rfl dX10_basin_80 ?_
            refine lv_aload_n C.1.1 C.1.2.1 dX10_basin_83 rfl (lv_at hl 0 rfl) ?_
            refine r_getR (k := 2) C hw shC_0 ltC_0 cO10 rfl (by decide) tw2_48 rfl dX10_basin_84 ?_
            refine lv_iload_n C.1.1 C.1.2.1 dX10_basin_87 rfl (lv_at hl 1 rfl) ?_
            refine r_callI (As := [.ref (X.2.2 4), .int (iz a1)]) (rest := []) (rm := rmX5_width) C hw (is5_s is5_at6) (is5_l is5_at6) cO5 tw3_186 tw3_187 tw3_188 tw1_5 tw3_189 hd_X5_width rfl ⟨⟨rfl, rfl⟩, Nat.le_of_ble_eq_true rfl, Nat.le_of_ble_eq_true rfl⟩ hl.1 rfl (Nat.le_of_ble_eq_true rfl) dX10_basin_88 hf (fun o ho => c_X5_width l X hinj hZ N S2 6 4 a1 is5_at6 is0_at4 o ho) (fun v88 S88 H locs hf hw => ?_)
            exact r_retI C hw dX10_basin_91 hf
          · skip
            refine lv_tableOut (tgt := 92) C.1.1 C.1.2.1 dX10_basin_11 (by rw [sw_in hsw]; omega) (by decide) ?_
            refine r_iconst (v := (-1)) C dX10_basin_92 ?_
            exact r_retI C hw dX10_basin_93 hf
  · refine r_iconst (v := (-1)) C dX10_basin_8 ?_
    exact r_retI C hw dX10_basin_9 hf
def f_X10_at (N : Nat) (S : S2) (a1 : Int) (a2 : Int) : Option (Int × S2) := bI (f_X0_has N S 4 a1) fun v5 S5 => cI v5 0 (if v5 = 0 then rI (-1) S5 else cI a2 0 (if a2 = 0 then bI (f_X5_beginningAt N S5 6 a1) fun v22 S22 => rI v22 S22 else cI a2 1 (if a2 = 1 then bI (f_X5_withBasinAt N S5 6 4 a1) fun v40 S40 => rI v40 S40 else rI (-1) S5)))
abbrev rmX10_at : Room := { frames := 4, cells := 0, slots := 0, locals := 94 }
theorem hd_X10_at : yX10_at.cls ≠ "java/lang/invoke/MethodHandle" ∧ yX10_at.cls ≠ "java/lang/invoke/VarHandle" ∧ (parseMethodDescriptor yX10_at.desc).map (fun d => d.parameters.length) = some 2 := by decide +kernel
set_option maxRecDepth 100000 in
set_option maxHeartbeats 4000000 in
theorem c_X10_at (l : Launch) (X : XT) (hinj : XInj X nC) (hZ : ZOK (Zc X)) (N : Nat) (S : S2) (a1 : Int) (a2 : Int) (out : Int × S2) (hf : f_X10_at N S a1 a2 = some out) : MI l X shC nC (Zc X) yX10_at cX10_at 3 (some .int) rmX10_at [.ref (X.2.2 0), .int (iz a1), .int (iz a2)] S out := by
  refine met_I (own := RX10) (by decide) rfl hinj hZ (Nat.le_of_ble_eq_true rfl) (fun p e s m args below meth c C ls H locs hw hl => ?_)
  unfold f_X10_at at hf
  have hl : lv_has ls 3 [(0, .ref (X.2.2 0)), (1, .int (iz a1)), (2, .int (iz a2))] := hl
  refine lv_aload_n C.1.1 C.1.2.1 dX10_at_0 rfl (lv_at hl 0 rfl) ?_
  refine r_getR (k := 2) C hw shC_0 ltC_0 cO10 rfl (by decide) tw2_48 rfl dX10_at_1 ?_
  refine lv_iload_n C.1.1 C.1.2.1 dX10_at_4 rfl (lv_at hl 1 rfl) ?_
  refine r_callI (As := [.int (iz a1)]) (rest := []) (rm := rmX0_has) C hw (is0_s is0_at4) (is0_l is0_at4) cO0 tw3_150 tw3_151 tw3_152 tw1_4 tw3_153 hd_X0_has rfl ⟨⟨rfl, rfl⟩, Nat.le_of_ble_eq_true rfl, Nat.le_of_ble_eq_true rfl⟩ hl.1 rfl (Nat.le_of_ble_eq_true rfl) dX10_at_5 hf (fun o ho => c_X0_has l X hinj hZ N S 4 a1 is0_at4 o ho) (fun v5 S5 H locs hf hw => ?_)
  refine r_if_ne C (tgt := 13) dX10_at_8 (by decide) hf (fun hf => ?_) (fun hf => ?_)
  · refine lv_iload_n C.1.1 C.1.2.1 dX10_at_13 rfl (lv_at hl 2 rfl) ?_
    refine r_if_ne C (tgt := 26) dX10_at_14 (by decide) hf (fun hf => ?_) (fun hf => ?_)
    · refine lv_iload_n C.1.1 C.1.2.1 dX10_at_26 rfl (lv_at hl 2 rfl) ?_
      refine r_iconst (v := 1) C dX10_at_27 ?_
      refine r_icmp_ne C (tgt := 46) dX10_at_28 (by decide) hf (fun hf => ?_) (fun hf => ?_)
      · refine r_iconst (v := (-1)) C dX10_at_46 ?_
        exact r_retI C hw dX10_at_47 hf
      · refine lv_aload_n C.1.1 C.1.2.1 dX10_at_31 rfl (lv_at hl 0 rfl) ?_
        refine r_getR (k := 3) C hw shC_0 ltC_0 cO10 rfl (by decide) tw2_49 rfl dX10_at_32 ?_
        refine lv_aload_n C.1.1 C.1.2.1 dX10_at_35 rfl (lv_at hl 0 rfl) ?_
        refine r_getR (k := 2) C hw shC_0 ltC_0 cO10 rfl (by decide) tw2_48 rfl dX10_at_36 ?_
        refine lv_iload_n C.1.1 C.1.2.1 dX10_at_39 rfl (lv_at hl 1 rfl) ?_
        refine r_callI (As := [.ref (X.2.2 4), .int (iz a1)]) (rest := []) (rm := rmX5_withBasinAt) C hw (is5_s is5_at6) (is5_l is5_at6) cO5 tw3_206 tw3_207 tw3_208 tw1_5 tw3_209 hd_X5_withBasinAt rfl ⟨⟨rfl, rfl⟩, Nat.le_of_ble_eq_true rfl, Nat.le_of_ble_eq_true rfl⟩ hl.1 rfl (Nat.le_of_ble_eq_true rfl) dX10_at_40 hf (fun o ho => c_X5_withBasinAt l X hinj hZ N S5 6 4 a1 is5_at6 is0_at4 o ho) (fun v40 S40 H locs hf hw => ?_)
        refine lv_goto (tgt := 47) C.1.1 C.1.2.1 dX10_at_43 (by decide) ?_
        exact r_retI C hw dX10_at_47 hf
    · refine lv_aload_n C.1.1 C.1.2.1 dX10_at_17 rfl (lv_at hl 0 rfl) ?_
      refine r_getR (k := 3) C hw shC_0 ltC_0 cO10 rfl (by decide) tw2_49 rfl dX10_at_18 ?_
      refine lv_iload_n C.1.1 C.1.2.1 dX10_at_21 rfl (lv_at hl 1 rfl) ?_
      refine r_callI (As := [.int (iz a1)]) (rest := []) (rm := rmX5_beginningAt) C hw (is5_s is5_at6) (is5_l is5_at6) cO5 tw3_202 tw3_203 tw3_204 tw1_5 tw3_205 hd_X5_beginningAt rfl ⟨⟨rfl, rfl⟩, Nat.le_of_ble_eq_true rfl, Nat.le_of_ble_eq_true rfl⟩ hl.1 rfl (Nat.le_of_ble_eq_true rfl) dX10_at_22 hf (fun o ho => c_X5_beginningAt l X hinj hZ N S5 6 a1 is5_at6 o ho) (fun v22 S22 H locs hf hw => ?_)
      exact r_retI C hw dX10_at_25 hf
  · refine r_iconst (v := (-1)) C dX10_at_11 ?_
    exact r_retI C hw dX10_at_12 hf
def f_X10_log (N : Nat) (S : S2) (a1 : Int) (a2 : Int) : Option (Int × S2) := bI (f_X4_tell N S 27 a1 a2) fun v6 S6 => rI v6 S6
abbrev rmX10_log : Room := { frames := 3, cells := 0, slots := 0, locals := 64 }
theorem hd_X10_log : yX10_log.cls ≠ "java/lang/invoke/MethodHandle" ∧ yX10_log.cls ≠ "java/lang/invoke/VarHandle" ∧ (parseMethodDescriptor yX10_log.desc).map (fun d => d.parameters.length) = some 2 := by decide +kernel
set_option maxRecDepth 100000 in
set_option maxHeartbeats 4000000 in
theorem c_X10_log (l : Launch) (X : XT) (hinj : XInj X nC) (hZ : ZOK (Zc X)) (N : Nat) (S : S2) (a1 : Int) (a2 : Int) (out : Int × S2) (hf : f_X10_log N S a1 a2 = some out) : MI l X shC nC (Zc X) yX10_log cX10_log 3 (some .int) rmX10_log [.ref (X.2.2 0), .int (iz a1), .int (iz a2)] S out := by
  refine met_I (own := RX10) (by decide) rfl hinj hZ (Nat.le_of_ble_eq_true rfl) (fun p e s m args below meth c C ls H locs hw hl => ?_)
  unfold f_X10_log at hf
  have hl : lv_has ls 3 [(0, .ref (X.2.2 0)), (1, .int (iz a1)), (2, .int (iz a2))] := hl
  refine lv_aload_n C.1.1 C.1.2.1 dX10_log_0 rfl (lv_at hl 0 rfl) ?_
  refine r_getR (k := 6) C hw shC_0 ltC_0 cO10 rfl (by decide) tw2_52 rfl dX10_log_1 ?_
  refine lv_iload_n C.1.1 C.1.2.1 dX10_log_4 rfl (lv_at hl 1 rfl) ?_
  refine lv_iload_n C.1.1 C.1.2.1 dX10_log_5 rfl (lv_at hl 2 rfl) ?_
  refine r_callI (As := [.int (iz a1), .int (iz a2)]) (rest := []) (rm := rmX4_tell) C hw (is4_s is4_at27) (is4_l is4_at27) cO4 tw4_141 tw4_142 tw4_143 tw1_8 tw4_144 hd_X4_tell rfl ⟨⟨rfl, rfl⟩, Nat.le_of_ble_eq_true rfl, Nat.le_of_ble_eq_true rfl⟩ hl.1 rfl (Nat.le_of_ble_eq_true rfl) dX10_log_6 hf (fun o ho => c_X4_tell l X hinj hZ N S 27 a1 a2 is4_at27 o ho) (fun v6 S6 H locs hf hw => ?_)
  exact r_retI C hw dX10_log_9 hf
def f_X10_noiseFor (N : Nat) (S : S2) (a1 : Int) : Option (Int × S2) := bI (f_X10_noTrace N S) fun v1 S1 => cI v1 0 (if v1 = 0 then cI a1 1 (if a1 < 1 then rI (-1) S1 else cI a1 48 (if a1 ≤ 48 then gI S1 6 0 fun v25 => cI a1 v25 (if v25 ≤ a1 then rI 0 S1 else bI (f_X5_persistenceOf N S1 6 a1) fun v36 S36 => rI v36 S36) else rI (-1) S1)) else rI (-1) S1)
abbrev rmX10_noiseFor : Room := { frames := 2, cells := 0, slots := 0, locals := 42 }
theorem hd_X10_noiseFor : yX10_noiseFor.cls ≠ "java/lang/invoke/MethodHandle" ∧ yX10_noiseFor.cls ≠ "java/lang/invoke/VarHandle" ∧ (parseMethodDescriptor yX10_noiseFor.desc).map (fun d => d.parameters.length) = some 1 := by decide +kernel
set_option maxRecDepth 100000 in
set_option maxHeartbeats 4000000 in
theorem c_X10_noiseFor (l : Launch) (X : XT) (hinj : XInj X nC) (hZ : ZOK (Zc X)) (N : Nat) (S : S2) (a1 : Int) (out : Int × S2) (hf : f_X10_noiseFor N S a1 = some out) : MI l X shC nC (Zc X) yX10_noiseFor cX10_noiseFor 2 (some .int) rmX10_noiseFor [.ref (X.2.2 0), .int (iz a1)] S out := by
  refine met_I (own := RX10) (by decide) rfl hinj hZ (Nat.le_of_ble_eq_true rfl) (fun p e s m args below meth c C ls H locs hw hl => ?_)
  unfold f_X10_noiseFor at hf
  have hl : lv_has ls 2 [(0, .ref (X.2.2 0)), (1, .int (iz a1))] := hl
  refine lv_aload_n C.1.1 C.1.2.1 dX10_noiseFor_0 rfl (lv_at hl 0 rfl) ?_
  refine r_callI (As := []) (rest := []) (rm := rmX10_noTrace) C hw shC_0 ltC_0 cO10 tw3_133 tw3_135 tp_22 tw1_1 tw3_136 hd_X10_noTrace rfl ⟨⟨rfl, rfl⟩, Nat.le_of_ble_eq_true rfl, Nat.le_of_ble_eq_true rfl⟩ hl.1 rfl (Nat.le_of_ble_eq_true rfl) dX10_noiseFor_1 hf (fun o ho => c_X10_noTrace l X hinj hZ N S o ho) (fun v1 S1 H locs hf hw => ?_)
  refine r_if_ne C (tgt := 18) dX10_noiseFor_4 (by decide) hf (fun hf => ?_) (fun hf => ?_)
  · refine r_iconst (v := (-1)) C dX10_noiseFor_18 ?_
    exact r_retI C hw dX10_noiseFor_19 hf
  · refine lv_iload_n C.1.1 C.1.2.1 dX10_noiseFor_7 rfl (lv_at hl 1 rfl) ?_
    refine r_iconst (v := 1) C dX10_noiseFor_8 ?_
    refine r_icmp_lt C (tgt := 18) dX10_noiseFor_9 (by decide) hf (fun hf => ?_) (fun hf => ?_)
    · refine r_iconst (v := (-1)) C dX10_noiseFor_18 ?_
      exact r_retI C hw dX10_noiseFor_19 hf
    · refine lv_iload_n C.1.1 C.1.2.1 dX10_noiseFor_12 rfl (lv_at hl 1 rfl) ?_
      refine r_bipush (v := 48) C dX10_noiseFor_13 (by decide) ?_
      refine r_icmp_le C (tgt := 20) dX10_noiseFor_15 (by decide) hf (fun hf => ?_) (fun hf => ?_)
      · refine lv_iload_n C.1.1 C.1.2.1 dX10_noiseFor_20 rfl (lv_at hl 1 rfl) ?_
        refine lv_aload_n C.1.1 C.1.2.1 dX10_noiseFor_21 rfl (lv_at hl 0 rfl) ?_
        refine r_getR (k := 3) C hw shC_0 ltC_0 cO10 rfl (by decide) tw2_49 rfl dX10_noiseFor_22 ?_
        refine r_getI (k := 0) C hw (is5_s is5_at6) (is5_l is5_at6) cO5 rfl (by decide) tw1_112 rfl dX10_noiseFor_25 hf (fun v25 hf => ?_)
        refine r_icmp_ge C (tgt := 42) dX10_noiseFor_28 (by decide) hf (fun hf => ?_) (fun hf => ?_)
        · refine r_iconst (v := 0) C dX10_noiseFor_42 ?_
          exact r_retI C hw dX10_noiseFor_43 hf
        · refine lv_aload_n C.1.1 C.1.2.1 dX10_noiseFor_31 rfl (lv_at hl 0 rfl) ?_
          refine r_getR (k := 3) C hw shC_0 ltC_0 cO10 rfl (by decide) tw2_49 rfl dX10_noiseFor_32 ?_
          refine lv_iload_n C.1.1 C.1.2.1 dX10_noiseFor_35 rfl (lv_at hl 1 rfl) ?_
          refine r_callI (As := [.int (iz a1)]) (rest := []) (rm := rmX5_persistenceOf) C hw (is5_s is5_at6) (is5_l is5_at6) cO5 tw4_154 tw3_101 tw3_102 tw1_5 tw3_103 hd_X5_persistenceOf rfl ⟨⟨rfl, rfl⟩, Nat.le_of_ble_eq_true rfl, Nat.le_of_ble_eq_true rfl⟩ hl.1 rfl (Nat.le_of_ble_eq_true rfl) dX10_noiseFor_36 hf (fun o ho => c_X5_persistenceOf l X hinj hZ N S1 6 a1 is5_at6 o ho) (fun v36 S36 H locs hf hw => ?_)
          refine lv_goto (tgt := 43) C.1.1 C.1.2.1 dX10_noiseFor_39 (by decide) ?_
          exact r_retI C hw dX10_noiseFor_43 hf
      · refine r_iconst (v := (-1)) C dX10_noiseFor_18 ?_
        exact r_retI C hw dX10_noiseFor_19 hf
def f_X10_room_95 (N : Nat) (y0 : Int) (y1 : Int) (S : S2) : Option (Int × S2) := rI (y1 - y0) S
def f_X10_room_43 (N : Nat) (y0 : Int) (S : S2) : Option (Int × S2) := gI S 4 2 fun v47 => rI (y0 - v47) S
def f_X10_room (N : Nat) (S : S2) (a1 : Int) : Option (Int × S2) := bI (f_X10_noTrace N S) fun v1 S1 => cI v1 0 (if v1 = 0 then cI a1 0 (if a1 = 0 then gI S1 6 1 fun v17 => cI (v17 - 1) 0 (if (v17 - 1) ≤ 0 then (f_X10_room_43 N) 999 S1 else bI (f_X5_persistenceOf N S1 6 (v17 - 1)) fun v32 S32 => (f_X10_room_43 N) (v32 - 1) S32) else cI a1 1 (if a1 = 1 then gI S1 6 1 fun v61 => gI S1 4 2 fun v69 => gI S1 6 0 fun v77 => cI v61 v77 (if v77 ≤ v61 then (f_X10_room_95 N) 0 v69 S1 else bI (f_X5_persistenceOf N S1 6 v61) fun v88 S88 => (f_X10_room_95 N) v88 v69 S88) else rI (-1) S1)) else rI (-1) S1)
abbrev rmX10_room : Room := { frames := 2, cells := 0, slots := 0, locals := 42 }
theorem hd_X10_room : yX10_room.cls ≠ "java/lang/invoke/MethodHandle" ∧ yX10_room.cls ≠ "java/lang/invoke/VarHandle" ∧ (parseMethodDescriptor yX10_room.desc).map (fun d => d.parameters.length) = some 1 := by decide +kernel
set_option maxRecDepth 100000 in
set_option maxHeartbeats 4000000 in
theorem w_X10_room_95 {p : Program} (l : Launch) {e : Env} {s : State} {m : MethodId} {args : Array Value} {below : List Frame} {meth : Method} {c : Code} {X : XT} (hinj : XInj X nC) (hZ : ZOK (Zc X)) (C : CX p s m args meth c cX10_room 3 RX10 (some .int) X nC (Zc X)) (out : Int × S2) : ∀ (N : Nat), ∀ (y0 : Int) (y1 : Int) (S : S2) (H : Heap) (locs : List Loc) (ls : Array Slot), f_X10_room_95 N y0 y1 S = some out → WH X shC nC s S H locs → lv_has ls 3 [] → W p l e rmX10_room s m args below meth c H locs 0 0 (QI X shC nC s args below out) (F0 m 95 ls [.int (iz y0), .int (iz y1)]) := by
  intro N y0 y1 S H locs ls hf hw hl
  unfold f_X10_room_95 at hf
  refine r_isub C dX10_room_95 ?_
  exact r_retI C hw dX10_room_96 hf
set_option maxRecDepth 100000 in
set_option maxHeartbeats 4000000 in
theorem w_X10_room_43 {p : Program} (l : Launch) {e : Env} {s : State} {m : MethodId} {args : Array Value} {below : List Frame} {meth : Method} {c : Code} {X : XT} (hinj : XInj X nC) (hZ : ZOK (Zc X)) (C : CX p s m args meth c cX10_room 3 RX10 (some .int) X nC (Zc X)) (out : Int × S2) : ∀ (N : Nat), ∀ (y0 : Int) (S : S2) (H : Heap) (locs : List Loc) (ls : Array Slot), f_X10_room_43 N y0 S = some out → WH X shC nC s S H locs → lv_has ls 3 [(0, .ref (X.2.2 0))] → W p l e rmX10_room s m args below meth c H locs 0 0 (QI X shC nC s args below out) (F0 m 43 ls [.int (iz y0)]) := by
  intro N y0 S H locs ls hf hw hl
  unfold f_X10_room_43 at hf
  refine lv_aload_n C.1.1 C.1.2.1 dX10_room_43 rfl (lv_at hl 0 rfl) ?_
  refine r_getR (k := 2) C hw shC_0 ltC_0 cO10 rfl (by decide) tw2_48 rfl dX10_room_44 ?_
  refine r_getI (k := 2) C hw (is0_s is0_at4) (is0_l is0_at4) cO0 rfl (by decide) tw1_96 rfl dX10_room_47 hf (fun v47 hf => ?_)
  refine r_isub C dX10_room_50 ?_
  exact r_retI C hw dX10_room_51 hf
set_option maxRecDepth 100000 in
set_option maxHeartbeats 4000000 in
theorem c_X10_room (l : Launch) (X : XT) (hinj : XInj X nC) (hZ : ZOK (Zc X)) (N : Nat) (S : S2) (a1 : Int) (out : Int × S2) (hf : f_X10_room N S a1 = some out) : MI l X shC nC (Zc X) yX10_room cX10_room 3 (some .int) rmX10_room [.ref (X.2.2 0), .int (iz a1)] S out := by
  refine met_I (own := RX10) (by decide) rfl hinj hZ (Nat.le_of_ble_eq_true rfl) (fun p e s m args below meth c C ls H locs hw hl => ?_)
  unfold f_X10_room at hf
  have hl : lv_has ls 3 [(0, .ref (X.2.2 0)), (1, .int (iz a1))] := hl
  refine lv_aload_n C.1.1 C.1.2.1 dX10_room_0 rfl (lv_at hl 0 rfl) ?_
  refine r_callI (As := []) (rest := []) (rm := rmX10_noTrace) C hw shC_0 ltC_0 cO10 tw3_133 tw3_135 tp_22 tw1_1 tw3_136 hd_X10_noTrace rfl ⟨⟨rfl, rfl⟩, Nat.le_of_ble_eq_true rfl, Nat.le_of_ble_eq_true rfl⟩ hl.1 rfl (Nat.le_of_ble_eq_true rfl) dX10_room_1 hf (fun o ho => c_X10_noTrace l X hinj hZ N S o ho) (fun v1 S1 H locs hf hw => ?_)
  refine r_if_eq C (tgt := 9) dX10_room_4 (by decide) hf (fun hf => ?_) (fun hf => ?_)
  · refine lv_iload_n C.1.1 C.1.2.1 dX10_room_9 rfl (lv_at hl 1 rfl) ?_
    refine r_if_ne C (tgt := 52) dX10_room_10 (by decide) hf (fun hf => ?_) (fun hf => ?_)
    · refine lv_iload_n C.1.1 C.1.2.1 dX10_room_52 rfl (lv_at hl 1 rfl) ?_
      refine r_iconst (v := 1) C dX10_room_53 ?_
      refine r_icmp_ne C (tgt := 97) dX10_room_54 (by decide) hf (fun hf => ?_) (fun hf => ?_)
      · refine r_iconst (v := (-1)) C dX10_room_97 ?_
        exact r_retI C hw dX10_room_98 hf
      · refine lv_aload_n C.1.1 C.1.2.1 dX10_room_57 rfl (lv_at hl 0 rfl) ?_
        refine r_getR (k := 3) C hw shC_0 ltC_0 cO10 rfl (by decide) tw2_49 rfl dX10_room_58 ?_
        refine r_getI (k := 1) C hw (is5_s is5_at6) (is5_l is5_at6) cO5 rfl (by decide) tw1_115 rfl dX10_room_61 hf (fun v61 hf => ?_)
        refine lv_istore_n (lv' := [(2, .int (iz v61)), (0, .ref (X.2.2 0)), (1, .int (iz a1))]) C.1.1 C.1.2.1 dX10_room_64 rfl hl (by decide) rfl (fun ls hl => ?_)
        refine lv_aload_n C.1.1 C.1.2.1 dX10_room_65 rfl (lv_at hl 1 rfl) ?_
        refine r_getR (k := 2) C hw shC_0 ltC_0 cO10 rfl (by decide) tw2_48 rfl dX10_room_66 ?_
        refine r_getI (k := 2) C hw (is0_s is0_at4) (is0_l is0_at4) cO0 rfl (by decide) tw1_96 rfl dX10_room_69 hf (fun v69 hf => ?_)
        refine lv_iload_n C.1.1 C.1.2.1 dX10_room_72 rfl (lv_at hl 0 rfl) ?_
        refine lv_aload_n C.1.1 C.1.2.1 dX10_room_73 rfl (lv_at hl 1 rfl) ?_
        refine r_getR (k := 3) C hw shC_0 ltC_0 cO10 rfl (by decide) tw2_49 rfl dX10_room_74 ?_
        refine r_getI (k := 0) C hw (is5_s is5_at6) (is5_l is5_at6) cO5 rfl (by decide) tw1_112 rfl dX10_room_77 hf (fun v77 hf => ?_)
        refine r_icmp_ge C (tgt := 94) dX10_room_80 (by decide) hf (fun hf => ?_) (fun hf => ?_)
        · refine r_iconst (v := 0) C dX10_room_94 ?_
          exact (w_X10_room_95 l hinj hZ C out N) 0 v69 S1 H locs ls hf hw (lv_sub hl [] rfl)
        · refine lv_aload_n C.1.1 C.1.2.1 dX10_room_83 rfl (lv_at hl 1 rfl) ?_
          refine r_getR (k := 3) C hw shC_0 ltC_0 cO10 rfl (by decide) tw2_49 rfl dX10_room_84 ?_
          refine lv_iload_n C.1.1 C.1.2.1 dX10_room_87 rfl (lv_at hl 0 rfl) ?_
          refine r_callI (As := [.int (iz v61)]) (rest := [.int (iz v69)]) (rm := rmX5_persistenceOf) C hw (is5_s is5_at6) (is5_l is5_at6) cO5 tw4_154 tw3_101 tw3_102 tw1_5 tw3_103 hd_X5_persistenceOf rfl ⟨⟨rfl, rfl⟩, Nat.le_of_ble_eq_true rfl, Nat.le_of_ble_eq_true rfl⟩ hl.1 rfl (Nat.le_of_ble_eq_true rfl) dX10_room_88 hf (fun o ho => c_X5_persistenceOf l X hinj hZ N S1 6 v61 is5_at6 o ho) (fun v88 S88 H locs hf hw => ?_)
          refine lv_goto (tgt := 95) C.1.1 C.1.2.1 dX10_room_91 (by decide) ?_
          exact (w_X10_room_95 l hinj hZ C out N) v88 v69 S88 H locs ls hf hw (lv_sub hl [] rfl)
    · refine lv_aload_n C.1.1 C.1.2.1 dX10_room_13 rfl (lv_at hl 0 rfl) ?_
      refine r_getR (k := 3) C hw shC_0 ltC_0 cO10 rfl (by decide) tw2_49 rfl dX10_room_14 ?_
      refine r_getI (k := 1) C hw (is5_s is5_at6) (is5_l is5_at6) cO5 rfl (by decide) tw1_115 rfl dX10_room_17 hf (fun v17 hf => ?_)
      refine r_iconst (v := 1) C dX10_room_20 ?_
      refine r_isub C dX10_room_21 ?_
      refine lv_istore_n (lv' := [(2, .int (iz (v17 - 1))), (0, .ref (X.2.2 0)), (1, .int (iz a1))]) C.1.1 C.1.2.1 dX10_room_22 rfl hl (by decide) rfl (fun ls hl => ?_)
      refine lv_iload_n C.1.1 C.1.2.1 dX10_room_23 rfl (lv_at hl 0 rfl) ?_
      refine r_if_le C (tgt := 40) dX10_room_24 (by decide) hf (fun hf => ?_) (fun hf => ?_)
      · refine r_sipush (v := 999) C dX10_room_40 (by decide) ?_
        exact (w_X10_room_43 l hinj hZ C out N) 999 S1 H locs ls hf hw (lv_sub hl [1] rfl)
      · refine lv_aload_n C.1.1 C.1.2.1 dX10_room_27 rfl (lv_at hl 1 rfl) ?_
        refine r_getR (k := 3) C hw shC_0 ltC_0 cO10 rfl (by decide) tw2_49 rfl dX10_room_28 ?_
        refine lv_iload_n C.1.1 C.1.2.1 dX10_room_31 rfl (lv_at hl 0 rfl) ?_
        refine r_callI (As := [.int (iz (v17 - 1))]) (rest := []) (rm := rmX5_persistenceOf) C hw (is5_s is5_at6) (is5_l is5_at6) cO5 tw4_154 tw3_101 tw3_102 tw1_5 tw3_103 hd_X5_persistenceOf rfl ⟨⟨rfl, rfl⟩, Nat.le_of_ble_eq_true rfl, Nat.le_of_ble_eq_true rfl⟩ hl.1 rfl (Nat.le_of_ble_eq_true rfl) dX10_room_32 hf (fun o ho => c_X5_persistenceOf l X hinj hZ N S1 6 (v17 - 1) is5_at6 o ho) (fun v32 S32 H locs hf hw => ?_)
        refine r_iconst (v := 1) C dX10_room_35 ?_
        refine r_isub C dX10_room_36 ?_
        refine lv_goto (tgt := 43) C.1.1 C.1.2.1 dX10_room_37 (by decide) ?_
        exact (w_X10_room_43 l hinj hZ C out N) (v32 - 1) S32 H locs ls hf hw (lv_sub hl [1] rfl)
  · refine r_iconst (v := (-1)) C dX10_room_7 ?_
    exact r_retI C hw dX10_room_8 hf
def f_X10_solo_41 (k4 : Int → Int → S2 → Option (Int × S2)) (N : Nat) (x1 : Int) (x2 : Int) (S : S2) : Option (Int × S2) := k4 x1 (x2 + 1) S
def f_X10_solo_39 (k4 : Int → Int → S2 → Option (Int × S2)) (N : Nat) (x2 : Int) (S : S2) : Option (Int × S2) := (f_X10_solo_41 k4 N) x2 x2 S
def f_X10_solo_4 : Nat → Int → Int → S2 → Option (Int × S2)
  | 0, _, _, _ => none
  | N + 1, x1, x2, S => gI S 6 0 fun v9 => cI x2 v9 (if v9 ≤ x2 then rI x1 S else cI x1 (-1) (if x1 = (-1) then (f_X10_solo_39 (f_X10_solo_4 N) N) x2 S else bI (f_X5_heightOf N S 6 x2) fun v25 S25 => bI (f_X5_heightOf N S25 6 x1) fun v33 S33 => cI v25 v33 (if v25 ≤ v33 then (f_X10_solo_41 (f_X10_solo_4 N) N) x1 x2 S33 else (f_X10_solo_39 (f_X10_solo_4 N) N) x2 S33)))
def f_X10_solo (N : Nat) (S : S2) : Option (Int × S2) := (f_X10_solo_4 N) (-1) 1 S
abbrev rmX10_solo : Room := { frames := 1, cells := 0, slots := 0, locals := 21 }
theorem hd_X10_solo : yX10_solo.cls ≠ "java/lang/invoke/MethodHandle" ∧ yX10_solo.cls ≠ "java/lang/invoke/VarHandle" ∧ (parseMethodDescriptor yX10_solo.desc).map (fun d => d.parameters.length) = some 0 := by decide +kernel
set_option maxRecDepth 100000 in
set_option maxHeartbeats 4000000 in
theorem w_X10_solo_41 {p : Program} (l : Launch) {e : Env} {s : State} {m : MethodId} {args : Array Value} {below : List Frame} {meth : Method} {c : Code} {X : XT} (hinj : XInj X nC) (hZ : ZOK (Zc X)) (C : CX p s m args meth c cX10_solo 3 RX10 (some .int) X nC (Zc X)) (out : Int × S2) (k4 : Int → Int → S2 → Option (Int × S2)) (hk4 : ∀ (x1 : Int) (x2 : Int) (S : S2) (H : Heap) (locs : List Loc) (ls : Array Slot), k4 x1 x2 S = some out → WH X shC nC s S H locs → lv_has ls 3 [(0, .ref (X.2.2 0)), (1, .int (iz x1)), (2, .int (iz x2))] → W p l e rmX10_solo s m args below meth c H locs 0 0 (QI X shC nC s args below out) (F0 m 4 ls [])) : ∀ (N : Nat), ∀ (x1 : Int) (x2 : Int) (S : S2) (H : Heap) (locs : List Loc) (ls : Array Slot), f_X10_solo_41 k4 N x1 x2 S = some out → WH X shC nC s S H locs → lv_has ls 3 [(0, .ref (X.2.2 0)), (1, .int (iz x1)), (2, .int (iz x2))] → W p l e rmX10_solo s m args below meth c H locs 0 0 (QI X shC nC s args below out) (F0 m 41 ls []) := by
  intro N x1 x2 S H locs ls hf hw hl
  unfold f_X10_solo_41 at hf
  refine lv_iinc (v := iz (x2 + 1)) (lv' := [(2, .int (iz (x2 + 1))), (0, .ref (X.2.2 0)), (1, .int (iz x1))]) C.1.1 C.1.2.1 dX10_solo_41 hl (k := 2) rfl (iz_add _ _) (by decide) rfl (fun ls hl => ?_)
  refine lv_goto (tgt := 4) C.1.1 C.1.2.1 dX10_solo_44 (by decide) ?_
  exact hk4 x1 (x2 + 1) S H locs ls hf hw (lv_sub hl [1, 2, 0] rfl)
set_option maxRecDepth 100000 in
set_option maxHeartbeats 4000000 in
theorem w_X10_solo_39 {p : Program} (l : Launch) {e : Env} {s : State} {m : MethodId} {args : Array Value} {below : List Frame} {meth : Method} {c : Code} {X : XT} (hinj : XInj X nC) (hZ : ZOK (Zc X)) (C : CX p s m args meth c cX10_solo 3 RX10 (some .int) X nC (Zc X)) (out : Int × S2) (k4 : Int → Int → S2 → Option (Int × S2)) (hk4 : ∀ (x1 : Int) (x2 : Int) (S : S2) (H : Heap) (locs : List Loc) (ls : Array Slot), k4 x1 x2 S = some out → WH X shC nC s S H locs → lv_has ls 3 [(0, .ref (X.2.2 0)), (1, .int (iz x1)), (2, .int (iz x2))] → W p l e rmX10_solo s m args below meth c H locs 0 0 (QI X shC nC s args below out) (F0 m 4 ls [])) : ∀ (N : Nat), ∀ (x2 : Int) (S : S2) (H : Heap) (locs : List Loc) (ls : Array Slot), f_X10_solo_39 k4 N x2 S = some out → WH X shC nC s S H locs → lv_has ls 3 [(0, .ref (X.2.2 0)), (2, .int (iz x2))] → W p l e rmX10_solo s m args below meth c H locs 0 0 (QI X shC nC s args below out) (F0 m 39 ls []) := by
  intro N x2 S H locs ls hf hw hl
  unfold f_X10_solo_39 at hf
  refine lv_iload_n C.1.1 C.1.2.1 dX10_solo_39 rfl (lv_at hl 1 rfl) ?_
  refine lv_istore_n (lv' := [(1, .int (iz x2)), (0, .ref (X.2.2 0)), (2, .int (iz x2))]) C.1.1 C.1.2.1 dX10_solo_40 rfl hl (by decide) rfl (fun ls hl => ?_)
  exact (w_X10_solo_41 l hinj hZ C out k4 hk4 N) x2 x2 S H locs ls hf hw (lv_sub hl [1, 0, 2] rfl)
set_option maxRecDepth 100000 in
set_option maxHeartbeats 4000000 in
theorem w_X10_solo_4 {p : Program} (l : Launch) {e : Env} {s : State} {m : MethodId} {args : Array Value} {below : List Frame} {meth : Method} {c : Code} {X : XT} (hinj : XInj X nC) (hZ : ZOK (Zc X)) (C : CX p s m args meth c cX10_solo 3 RX10 (some .int) X nC (Zc X)) (out : Int × S2) : ∀ (N : Nat), ∀ (x1 : Int) (x2 : Int) (S : S2) (H : Heap) (locs : List Loc) (ls : Array Slot), f_X10_solo_4 N x1 x2 S = some out → WH X shC nC s S H locs → lv_has ls 3 [(0, .ref (X.2.2 0)), (1, .int (iz x1)), (2, .int (iz x2))] → W p l e rmX10_solo s m args below meth c H locs 0 0 (QI X shC nC s args below out) (F0 m 4 ls []) := by
  intro N
  induction N with
  | zero => intro x1 x2 S H locs ls hf hw hl; cases hf
  | succ N ih =>
    intro x1 x2 S H locs ls hf hw hl
    rw [f_X10_solo_4.eq_2] at hf
    refine lv_iload_n C.1.1 C.1.2.1 dX10_solo_4 rfl (lv_at hl 2 rfl) ?_
    refine lv_aload_n C.1.1 C.1.2.1 dX10_solo_5 rfl (lv_at hl 0 rfl) ?_
    refine r_getR (k := 3) C hw shC_0 ltC_0 cO10 rfl (by decide) tw2_49 rfl dX10_solo_6 ?_
    refine r_getI (k := 0) C hw (is5_s is5_at6) (is5_l is5_at6) cO5 rfl (by decide) tw1_112 rfl dX10_solo_9 hf (fun v9 hf => ?_)
    refine r_icmp_ge C (tgt := 47) dX10_solo_12 (by decide) hf (fun hf => ?_) (fun hf => ?_)
    · refine lv_iload_n C.1.1 C.1.2.1 dX10_solo_47 rfl (lv_at hl 1 rfl) ?_
      exact r_retI C hw dX10_solo_48 hf
    · refine lv_iload_n C.1.1 C.1.2.1 dX10_solo_15 rfl (lv_at hl 1 rfl) ?_
      refine r_iconst (v := (-1)) C dX10_solo_16 ?_
      refine r_icmp_eq C (tgt := 39) dX10_solo_17 (by decide) hf (fun hf => ?_) (fun hf => ?_)
      · exact (w_X10_solo_39 l hinj hZ C out (f_X10_solo_4 N) ih N) x2 S H locs ls hf hw (lv_sub hl [0, 2] rfl)
      · refine lv_aload_n C.1.1 C.1.2.1 dX10_solo_20 rfl (lv_at hl 0 rfl) ?_
        refine r_getR (k := 3) C hw shC_0 ltC_0 cO10 rfl (by decide) tw2_49 rfl dX10_solo_21 ?_
        refine lv_iload_n C.1.1 C.1.2.1 dX10_solo_24 rfl (lv_at hl 2 rfl) ?_
        refine r_callI (As := [.int (iz x2)]) (rest := []) (rm := rmX5_heightOf) C hw (is5_s is5_at6) (is5_l is5_at6) cO5 tw4_191 tw3_105 tw3_106 tw1_5 tw3_107 hd_X5_heightOf rfl ⟨⟨rfl, rfl⟩, Nat.le_of_ble_eq_true rfl, Nat.le_of_ble_eq_true rfl⟩ hl.1 rfl (Nat.le_of_ble_eq_true rfl) dX10_solo_25 hf (fun o ho => c_X5_heightOf l X hinj hZ N S 6 x2 is5_at6 o ho) (fun v25 S25 H locs hf hw => ?_)
        refine lv_aload_n C.1.1 C.1.2.1 dX10_solo_28 rfl (lv_at hl 0 rfl) ?_
        refine r_getR (k := 3) C hw shC_0 ltC_0 cO10 rfl (by decide) tw2_49 rfl dX10_solo_29 ?_
        refine lv_iload_n C.1.1 C.1.2.1 dX10_solo_32 rfl (lv_at hl 1 rfl) ?_
        refine r_callI (As := [.int (iz x1)]) (rest := [.int (iz v25)]) (rm := rmX5_heightOf) C hw (is5_s is5_at6) (is5_l is5_at6) cO5 tw4_191 tw3_105 tw3_106 tw1_5 tw3_107 hd_X5_heightOf rfl ⟨⟨rfl, rfl⟩, Nat.le_of_ble_eq_true rfl, Nat.le_of_ble_eq_true rfl⟩ hl.1 rfl (Nat.le_of_ble_eq_true rfl) dX10_solo_33 hf (fun o ho => c_X5_heightOf l X hinj hZ N S25 6 x1 is5_at6 o ho) (fun v33 S33 H locs hf hw => ?_)
        refine r_icmp_le C (tgt := 41) dX10_solo_36 (by decide) hf (fun hf => ?_) (fun hf => ?_)
        · exact (w_X10_solo_41 l hinj hZ C out (f_X10_solo_4 N) ih N) x1 x2 S33 H locs ls hf hw (lv_sub hl [0, 1, 2] rfl)
        · exact (w_X10_solo_39 l hinj hZ C out (f_X10_solo_4 N) ih N) x2 S33 H locs ls hf hw (lv_sub hl [0, 2] rfl)
set_option maxRecDepth 100000 in
set_option maxHeartbeats 4000000 in
theorem c_X10_solo (l : Launch) (X : XT) (hinj : XInj X nC) (hZ : ZOK (Zc X)) (N : Nat) (S : S2) (out : Int × S2) (hf : f_X10_solo N S = some out) : MI l X shC nC (Zc X) yX10_solo cX10_solo 3 (some .int) rmX10_solo [.ref (X.2.2 0)] S out := by
  refine met_I (own := RX10) (by decide) rfl hinj hZ (Nat.le_of_ble_eq_true rfl) (fun p e s m args below meth c C ls H locs hw hl => ?_)
  unfold f_X10_solo at hf
  have hl : lv_has ls 3 [(0, .ref (X.2.2 0))] := hl
  refine r_iconst (v := (-1)) C dX10_solo_0 ?_
  refine lv_istore_n (lv' := [(1, .int (iz (-1))), (0, .ref (X.2.2 0))]) C.1.1 C.1.2.1 dX10_solo_1 rfl hl (by decide) rfl (fun ls hl => ?_)
  refine r_iconst (v := 1) C dX10_solo_2 ?_
  refine lv_istore_n (lv' := [(2, .int (iz 1)), (1, .int (iz (-1))), (0, .ref (X.2.2 0))]) C.1.1 C.1.2.1 dX10_solo_3 rfl hl (by decide) rfl (fun ls hl => ?_)
  exact (w_X10_solo_4 l hinj hZ C out N) (-1) 1 S H locs ls hf hw (lv_sub hl [2, 1, 0] rfl)
def f_X10_tallest_53 (k4 : Int → Int → Int → S2 → Option (Int × S2)) (N : Nat) (x1 : Int) (x2 : Int) (x3 : Int) (S : S2) : Option (Int × S2) := k4 x1 x2 (x3 + 1) S
def f_X10_tallest_51 (k4 : Int → Int → Int → S2 → Option (Int × S2)) (N : Nat) (x1 : Int) (x3 : Int) (S : S2) : Option (Int × S2) := (f_X10_tallest_53 k4 N) x1 x3 x3 S
def f_X10_tallest_4 : Nat → Int → Int → Int → S2 → Option (Int × S2)
  | 0, _, _, _, _ => none
  | N + 1, x1, x2, x3, S => gI S 6 0 fun v9 => cI x3 v9 (if v9 ≤ x3 then rI x2 S else bI (f_X5_generationOf N S 6 x3) fun v20 S20 => cI v20 x1 (if v20 = x1 then cI x2 (-1) (if x2 = (-1) then (f_X10_tallest_51 (f_X10_tallest_4 N) N) x1 x3 S20 else bI (f_X5_heightOf N S20 6 x3) fun v37 S37 => bI (f_X5_heightOf N S37 6 x2) fun v45 S45 => cI v37 v45 (if v37 ≤ v45 then (f_X10_tallest_53 (f_X10_tallest_4 N) N) x1 x2 x3 S45 else (f_X10_tallest_51 (f_X10_tallest_4 N) N) x1 x3 S45)) else (f_X10_tallest_53 (f_X10_tallest_4 N) N) x1 x2 x3 S20))
def f_X10_tallest (N : Nat) (S : S2) (a1 : Int) : Option (Int × S2) := (f_X10_tallest_4 N) a1 (-1) 0 S
abbrev rmX10_tallest : Room := { frames := 1, cells := 0, slots := 0, locals := 21 }
theorem hd_X10_tallest : yX10_tallest.cls ≠ "java/lang/invoke/MethodHandle" ∧ yX10_tallest.cls ≠ "java/lang/invoke/VarHandle" ∧ (parseMethodDescriptor yX10_tallest.desc).map (fun d => d.parameters.length) = some 1 := by decide +kernel
set_option maxRecDepth 100000 in
set_option maxHeartbeats 4000000 in
theorem w_X10_tallest_53 {p : Program} (l : Launch) {e : Env} {s : State} {m : MethodId} {args : Array Value} {below : List Frame} {meth : Method} {c : Code} {X : XT} (hinj : XInj X nC) (hZ : ZOK (Zc X)) (C : CX p s m args meth c cX10_tallest 4 RX10 (some .int) X nC (Zc X)) (out : Int × S2) (k4 : Int → Int → Int → S2 → Option (Int × S2)) (hk4 : ∀ (x1 : Int) (x2 : Int) (x3 : Int) (S : S2) (H : Heap) (locs : List Loc) (ls : Array Slot), k4 x1 x2 x3 S = some out → WH X shC nC s S H locs → lv_has ls 4 [(0, .ref (X.2.2 0)), (1, .int (iz x1)), (2, .int (iz x2)), (3, .int (iz x3))] → W p l e rmX10_tallest s m args below meth c H locs 0 0 (QI X shC nC s args below out) (F0 m 4 ls [])) : ∀ (N : Nat), ∀ (x1 : Int) (x2 : Int) (x3 : Int) (S : S2) (H : Heap) (locs : List Loc) (ls : Array Slot), f_X10_tallest_53 k4 N x1 x2 x3 S = some out → WH X shC nC s S H locs → lv_has ls 4 [(0, .ref (X.2.2 0)), (1, .int (iz x1)), (2, .int (iz x2)), (3, .int (iz x3))] → W p l e rmX10_tallest s m args below meth c H locs 0 0 (QI X shC nC s args below out) (F0 m 53 ls []) := by
  intro N x1 x2 x3 S H locs ls hf hw hl
  unfold f_X10_tallest_53 at hf
  refine lv_iinc (v := iz (x3 + 1)) (lv' := [(3, .int (iz (x3 + 1))), (0, .ref (X.2.2 0)), (1, .int (iz x1)), (2, .int (iz x2))]) C.1.1 C.1.2.1 dX10_tallest_53 hl (k := 3) rfl (iz_add _ _) (by decide) rfl (fun ls hl => ?_)
  refine lv_goto (tgt := 4) C.1.1 C.1.2.1 dX10_tallest_56 (by decide) ?_
  exact hk4 x1 x2 (x3 + 1) S H locs ls hf hw (lv_sub hl [1, 2, 3, 0] rfl)
set_option maxRecDepth 100000 in
set_option maxHeartbeats 4000000 in
theorem w_X10_tallest_51 {p : Program} (l : Launch) {e : Env} {s : State} {m : MethodId} {args : Array Value} {below : List Frame} {meth : Method} {c : Code} {X : XT} (hinj : XInj X nC) (hZ : ZOK (Zc X)) (C : CX p s m args meth c cX10_tallest 4 RX10 (some .int) X nC (Zc X)) (out : Int × S2) (k4 : Int → Int → Int → S2 → Option (Int × S2)) (hk4 : ∀ (x1 : Int) (x2 : Int) (x3 : Int) (S : S2) (H : Heap) (locs : List Loc) (ls : Array Slot), k4 x1 x2 x3 S = some out → WH X shC nC s S H locs → lv_has ls 4 [(0, .ref (X.2.2 0)), (1, .int (iz x1)), (2, .int (iz x2)), (3, .int (iz x3))] → W p l e rmX10_tallest s m args below meth c H locs 0 0 (QI X shC nC s args below out) (F0 m 4 ls [])) : ∀ (N : Nat), ∀ (x1 : Int) (x3 : Int) (S : S2) (H : Heap) (locs : List Loc) (ls : Array Slot), f_X10_tallest_51 k4 N x1 x3 S = some out → WH X shC nC s S H locs → lv_has ls 4 [(0, .ref (X.2.2 0)), (1, .int (iz x1)), (3, .int (iz x3))] → W p l e rmX10_tallest s m args below meth c H locs 0 0 (QI X shC nC s args below out) (F0 m 51 ls []) := by
  intro N x1 x3 S H locs ls hf hw hl
  unfold f_X10_tallest_51 at hf
  refine lv_iload_n C.1.1 C.1.2.1 dX10_tallest_51 rfl (lv_at hl 2 rfl) ?_
  refine lv_istore_n (lv' := [(2, .int (iz x3)), (0, .ref (X.2.2 0)), (1, .int (iz x1)), (3, .int (iz x3))]) C.1.1 C.1.2.1 dX10_tallest_52 rfl hl (by decide) rfl (fun ls hl => ?_)
  exact (w_X10_tallest_53 l hinj hZ C out k4 hk4 N) x1 x3 x3 S H locs ls hf hw (lv_sub hl [1, 2, 0, 3] rfl)
set_option maxRecDepth 100000 in
set_option maxHeartbeats 4000000 in
theorem w_X10_tallest_4 {p : Program} (l : Launch) {e : Env} {s : State} {m : MethodId} {args : Array Value} {below : List Frame} {meth : Method} {c : Code} {X : XT} (hinj : XInj X nC) (hZ : ZOK (Zc X)) (C : CX p s m args meth c cX10_tallest 4 RX10 (some .int) X nC (Zc X)) (out : Int × S2) : ∀ (N : Nat), ∀ (x1 : Int) (x2 : Int) (x3 : Int) (S : S2) (H : Heap) (locs : List Loc) (ls : Array Slot), f_X10_tallest_4 N x1 x2 x3 S = some out → WH X shC nC s S H locs → lv_has ls 4 [(0, .ref (X.2.2 0)), (1, .int (iz x1)), (2, .int (iz x2)), (3, .int (iz x3))] → W p l e rmX10_tallest s m args below meth c H locs 0 0 (QI X shC nC s args below out) (F0 m 4 ls []) := by
  intro N
  induction N with
  | zero => intro x1 x2 x3 S H locs ls hf hw hl; cases hf
  | succ N ih =>
    intro x1 x2 x3 S H locs ls hf hw hl
    rw [f_X10_tallest_4.eq_2] at hf
    refine lv_iload_n C.1.1 C.1.2.1 dX10_tallest_4 rfl (lv_at hl 3 rfl) ?_
    refine lv_aload_n C.1.1 C.1.2.1 dX10_tallest_5 rfl (lv_at hl 0 rfl) ?_
    refine r_getR (k := 3) C hw shC_0 ltC_0 cO10 rfl (by decide) tw2_49 rfl dX10_tallest_6 ?_
    refine r_getI (k := 0) C hw (is5_s is5_at6) (is5_l is5_at6) cO5 rfl (by decide) tw1_112 rfl dX10_tallest_9 hf (fun v9 hf => ?_)
    refine r_icmp_ge C (tgt := 59) dX10_tallest_12 (by decide) hf (fun hf => ?_) (fun hf => ?_)
    · refine lv_iload_n C.1.1 C.1.2.1 dX10_tallest_59 rfl (lv_at hl 2 rfl) ?_
      exact r_retI C hw dX10_tallest_60 hf
    · refine lv_aload_n C.1.1 C.1.2.1 dX10_tallest_15 rfl (lv_at hl 0 rfl) ?_
      refine r_getR (k := 3) C hw shC_0 ltC_0 cO10 rfl (by decide) tw2_49 rfl dX10_tallest_16 ?_
      refine lv_iload_n C.1.1 C.1.2.1 dX10_tallest_19 rfl (lv_at hl 3 rfl) ?_
      refine r_callI (As := [.int (iz x3)]) (rest := []) (rm := rmX5_generationOf) C hw (is5_s is5_at6) (is5_l is5_at6) cO5 tw4_196 tw4_197 tw4_198 tw1_5 tw4_199 hd_X5_generationOf rfl ⟨⟨rfl, rfl⟩, Nat.le_of_ble_eq_true rfl, Nat.le_of_ble_eq_true rfl⟩ hl.1 rfl (Nat.le_of_ble_eq_true rfl) dX10_tallest_20 hf (fun o ho => c_X5_generationOf l X hinj hZ N S 6 x3 is5_at6 o ho) (fun v20 S20 H locs hf hw => ?_)
      refine lv_iload_n C.1.1 C.1.2.1 dX10_tallest_23 rfl (lv_at hl 1 rfl) ?_
      refine r_icmp_ne C (tgt := 53) dX10_tallest_24 (by decide) hf (fun hf => ?_) (fun hf => ?_)
      · exact (w_X10_tallest_53 l hinj hZ C out (f_X10_tallest_4 N) ih N) x1 x2 x3 S20 H locs ls hf hw (lv_sub hl [0, 1, 2, 3] rfl)
      · refine lv_iload_n C.1.1 C.1.2.1 dX10_tallest_27 rfl (lv_at hl 2 rfl) ?_
        refine r_iconst (v := (-1)) C dX10_tallest_28 ?_
        refine r_icmp_eq C (tgt := 51) dX10_tallest_29 (by decide) hf (fun hf => ?_) (fun hf => ?_)
        · exact (w_X10_tallest_51 l hinj hZ C out (f_X10_tallest_4 N) ih N) x1 x3 S20 H locs ls hf hw (lv_sub hl [0, 1, 3] rfl)
        · refine lv_aload_n C.1.1 C.1.2.1 dX10_tallest_32 rfl (lv_at hl 0 rfl) ?_
          refine r_getR (k := 3) C hw shC_0 ltC_0 cO10 rfl (by decide) tw2_49 rfl dX10_tallest_33 ?_
          refine lv_iload_n C.1.1 C.1.2.1 dX10_tallest_36 rfl (lv_at hl 3 rfl) ?_
          refine r_callI (As := [.int (iz x3)]) (rest := []) (rm := rmX5_heightOf) C hw (is5_s is5_at6) (is5_l is5_at6) cO5 tw4_191 tw3_105 tw3_106 tw1_5 tw3_107 hd_X5_heightOf rfl ⟨⟨rfl, rfl⟩, Nat.le_of_ble_eq_true rfl, Nat.le_of_ble_eq_true rfl⟩ hl.1 rfl (Nat.le_of_ble_eq_true rfl) dX10_tallest_37 hf (fun o ho => c_X5_heightOf l X hinj hZ N S20 6 x3 is5_at6 o ho) (fun v37 S37 H locs hf hw => ?_)
          refine lv_aload_n C.1.1 C.1.2.1 dX10_tallest_40 rfl (lv_at hl 0 rfl) ?_
          refine r_getR (k := 3) C hw shC_0 ltC_0 cO10 rfl (by decide) tw2_49 rfl dX10_tallest_41 ?_
          refine lv_iload_n C.1.1 C.1.2.1 dX10_tallest_44 rfl (lv_at hl 2 rfl) ?_
          refine r_callI (As := [.int (iz x2)]) (rest := [.int (iz v37)]) (rm := rmX5_heightOf) C hw (is5_s is5_at6) (is5_l is5_at6) cO5 tw4_191 tw3_105 tw3_106 tw1_5 tw3_107 hd_X5_heightOf rfl ⟨⟨rfl, rfl⟩, Nat.le_of_ble_eq_true rfl, Nat.le_of_ble_eq_true rfl⟩ hl.1 rfl (Nat.le_of_ble_eq_true rfl) dX10_tallest_45 hf (fun o ho => c_X5_heightOf l X hinj hZ N S37 6 x2 is5_at6 o ho) (fun v45 S45 H locs hf hw => ?_)
          refine r_icmp_le C (tgt := 53) dX10_tallest_48 (by decide) hf (fun hf => ?_) (fun hf => ?_)
          · exact (w_X10_tallest_53 l hinj hZ C out (f_X10_tallest_4 N) ih N) x1 x2 x3 S45 H locs ls hf hw (lv_sub hl [0, 1, 2, 3] rfl)
          · exact (w_X10_tallest_51 l hinj hZ C out (f_X10_tallest_4 N) ih N) x1 x3 S45 H locs ls hf hw (lv_sub hl [0, 1, 3] rfl)
set_option maxRecDepth 100000 in
set_option maxHeartbeats 4000000 in
theorem c_X10_tallest (l : Launch) (X : XT) (hinj : XInj X nC) (hZ : ZOK (Zc X)) (N : Nat) (S : S2) (a1 : Int) (out : Int × S2) (hf : f_X10_tallest N S a1 = some out) : MI l X shC nC (Zc X) yX10_tallest cX10_tallest 4 (some .int) rmX10_tallest [.ref (X.2.2 0), .int (iz a1)] S out := by
  refine met_I (own := RX10) (by decide) rfl hinj hZ (Nat.le_of_ble_eq_true rfl) (fun p e s m args below meth c C ls H locs hw hl => ?_)
  unfold f_X10_tallest at hf
  have hl : lv_has ls 4 [(0, .ref (X.2.2 0)), (1, .int (iz a1))] := hl
  refine r_iconst (v := (-1)) C dX10_tallest_0 ?_
  refine lv_istore_n (lv' := [(2, .int (iz (-1))), (0, .ref (X.2.2 0)), (1, .int (iz a1))]) C.1.1 C.1.2.1 dX10_tallest_1 rfl hl (by decide) rfl (fun ls hl => ?_)
  refine r_iconst (v := 0) C dX10_tallest_2 ?_
  refine lv_istore_n (lv' := [(3, .int (iz 0)), (2, .int (iz (-1))), (0, .ref (X.2.2 0)), (1, .int (iz a1))]) C.1.1 C.1.2.1 dX10_tallest_3 rfl hl (by decide) rfl (fun ls hl => ?_)
  exact (w_X10_tallest_4 l hinj hZ C out N) a1 (-1) 0 S H locs ls hf hw (lv_sub hl [2, 3, 1, 0] rfl)
def f_X10_step (N : Nat) (S : S2) (a1 : Int) (a2 : Int) (a3 : Int) : Option (Int × S2) := bI (f_X10_hasScript N S a1) fun v2 S2 => cI v2 0 (if v2 = 0 then rI (-1000000) S2 else aR 4 a1 fun j17 => bI (f_X7_tell N S2 ((fun j => 32 + 4 * j) j17) a2 a3) fun v20 S20 => rI v20 S20)
abbrev rmX10_step : Room := { frames := 2, cells := 0, slots := 0, locals := 42 }
theorem hd_X10_step : yX10_step.cls ≠ "java/lang/invoke/MethodHandle" ∧ yX10_step.cls ≠ "java/lang/invoke/VarHandle" ∧ (parseMethodDescriptor yX10_step.desc).map (fun d => d.parameters.length) = some 3 := by decide +kernel
set_option maxRecDepth 100000 in
set_option maxHeartbeats 4000000 in
theorem c_X10_step (l : Launch) (X : XT) (hinj : XInj X nC) (hZ : ZOK (Zc X)) (N : Nat) (S : S2) (a1 : Int) (a2 : Int) (a3 : Int) (out : Int × S2) (hf : f_X10_step N S a1 a2 a3 = some out) : MI l X shC nC (Zc X) yX10_step cX10_step 4 (some .int) rmX10_step [.ref (X.2.2 0), .int (iz a1), .int (iz a2), .int (iz a3)] S out := by
  refine met_I (own := RX10) (by decide) rfl hinj hZ (Nat.le_of_ble_eq_true rfl) (fun p e s m args below meth c C ls H locs hw hl => ?_)
  unfold f_X10_step at hf
  have hl : lv_has ls 4 [(0, .ref (X.2.2 0)), (1, .int (iz a1)), (2, .int (iz a2)), (3, .int (iz a3))] := hl
  refine lv_aload_n C.1.1 C.1.2.1 dX10_step_0 rfl (lv_at hl 0 rfl) ?_
  refine lv_iload_n C.1.1 C.1.2.1 dX10_step_1 rfl (lv_at hl 1 rfl) ?_
  refine r_callI (As := [.int (iz a1)]) (rest := []) (rm := rmX10_hasScript) C hw shC_0 ltC_0 cO10 tw4_230 tw4_232 tp_39 tw1_1 tw4_233 hd_X10_hasScript rfl ⟨⟨rfl, rfl⟩, Nat.le_of_ble_eq_true rfl, Nat.le_of_ble_eq_true rfl⟩ hl.1 rfl (Nat.le_of_ble_eq_true rfl) dX10_step_2 hf (fun o ho => c_X10_hasScript l X hinj hZ N S a1 o ho) (fun v2 S2 H locs hf hw => ?_)
  refine r_if_ne C (tgt := 12) dX10_step_5 (by decide) hf (fun hf => ?_) (fun hf => ?_)
  · refine lv_aload_n C.1.1 C.1.2.1 dX10_step_12 rfl (lv_at hl 0 rfl) ?_
    refine r_getR (k := 7) C hw shC_0 ltC_0 cO10 rfl (by decide) tw2_53 rfl dX10_step_13 ?_
    refine lv_iload_n C.1.1 C.1.2.1 dX10_step_16 rfl (lv_at hl 1 rfl) ?_
    refine r_aald C hw shC_31 rfl ltC_31 (Nat.le_of_ble_eq_true rfl) dX10_step_17 hf (fun j17 hj17 hf => ?_)
    refine lv_iload_n C.1.1 C.1.2.1 dX10_step_18 rfl (lv_at hl 2 rfl) ?_
    refine lv_iload_n C.1.1 C.1.2.1 dX10_step_19 rfl (lv_at hl 3 rfl) ?_
    refine r_callI (As := [.int (iz a2), .int (iz a3)]) (rest := []) (rm := rmX7_tell) C hw (is7_s (is7_el hj17)) (is7_l (is7_el hj17)) cO7 tw4_234 tw4_235 tw4_236 tw1_9 tw4_237 hd_X7_tell rfl ⟨⟨rfl, rfl⟩, Nat.le_of_ble_eq_true rfl, Nat.le_of_ble_eq_true rfl⟩ hl.1 rfl (Nat.le_of_ble_eq_true rfl) dX10_step_20 hf (fun o ho => c_X7_tell l X hinj hZ N S2 ((fun j => 32 + 4 * j) j17) a2 a3 (is7_el hj17) o ho) (fun v20 S20 H locs hf hw => ?_)
    exact r_retI C hw dX10_step_23 hf
  · refine r_ldcw (v := (-1000000)) C tw4_173 (by decide) dX10_step_8 ?_
    exact r_retI C hw dX10_step_11 hf
def f_X10_sumOfPlaces_4 : Nat → Int → Int → S2 → Option (Int × S2)
  | 0, _, _, _ => none
  | N + 1, x1, x2, S => gI S 6 1 fun v9 => cI x2 v9 (if v9 ≤ x2 then rI x1 S else bI (f_X5_placeOf N S 6 x2) fun v21 S21 => (f_X10_sumOfPlaces_4 N) (x1 + v21) (x2 + 1) S21)
def f_X10_sumOfPlaces (N : Nat) (S : S2) : Option (Int × S2) := (f_X10_sumOfPlaces_4 N) 0 0 S
abbrev rmX10_sumOfPlaces : Room := { frames := 1, cells := 0, slots := 0, locals := 21 }
theorem hd_X10_sumOfPlaces : yX10_sumOfPlaces.cls ≠ "java/lang/invoke/MethodHandle" ∧ yX10_sumOfPlaces.cls ≠ "java/lang/invoke/VarHandle" ∧ (parseMethodDescriptor yX10_sumOfPlaces.desc).map (fun d => d.parameters.length) = some 0 := by decide +kernel
set_option maxRecDepth 100000 in
set_option maxHeartbeats 4000000 in
theorem w_X10_sumOfPlaces_4 {p : Program} (l : Launch) {e : Env} {s : State} {m : MethodId} {args : Array Value} {below : List Frame} {meth : Method} {c : Code} {X : XT} (hinj : XInj X nC) (hZ : ZOK (Zc X)) (C : CX p s m args meth c cX10_sumOfPlaces 3 RX10 (some .int) X nC (Zc X)) (out : Int × S2) : ∀ (N : Nat), ∀ (x1 : Int) (x2 : Int) (S : S2) (H : Heap) (locs : List Loc) (ls : Array Slot), f_X10_sumOfPlaces_4 N x1 x2 S = some out → WH X shC nC s S H locs → lv_has ls 3 [(0, .ref (X.2.2 0)), (1, .int (iz x1)), (2, .int (iz x2))] → W p l e rmX10_sumOfPlaces s m args below meth c H locs 0 0 (QI X shC nC s args below out) (F0 m 4 ls []) := by
  intro N
  induction N with
  | zero => intro x1 x2 S H locs ls hf hw hl; cases hf
  | succ N ih =>
    intro x1 x2 S H locs ls hf hw hl
    rw [f_X10_sumOfPlaces_4.eq_2] at hf
    refine lv_iload_n C.1.1 C.1.2.1 dX10_sumOfPlaces_4 rfl (lv_at hl 2 rfl) ?_
    refine lv_aload_n C.1.1 C.1.2.1 dX10_sumOfPlaces_5 rfl (lv_at hl 0 rfl) ?_
    refine r_getR (k := 3) C hw shC_0 ltC_0 cO10 rfl (by decide) tw2_49 rfl dX10_sumOfPlaces_6 ?_
    refine r_getI (k := 1) C hw (is5_s is5_at6) (is5_l is5_at6) cO5 rfl (by decide) tw1_115 rfl dX10_sumOfPlaces_9 hf (fun v9 hf => ?_)
    refine r_icmp_ge C (tgt := 32) dX10_sumOfPlaces_12 (by decide) hf (fun hf => ?_) (fun hf => ?_)
    · refine lv_iload_n C.1.1 C.1.2.1 dX10_sumOfPlaces_32 rfl (lv_at hl 1 rfl) ?_
      exact r_retI C hw dX10_sumOfPlaces_33 hf
    · refine lv_iload_n C.1.1 C.1.2.1 dX10_sumOfPlaces_15 rfl (lv_at hl 1 rfl) ?_
      refine lv_aload_n C.1.1 C.1.2.1 dX10_sumOfPlaces_16 rfl (lv_at hl 0 rfl) ?_
      refine r_getR (k := 3) C hw shC_0 ltC_0 cO10 rfl (by decide) tw2_49 rfl dX10_sumOfPlaces_17 ?_
      refine lv_iload_n C.1.1 C.1.2.1 dX10_sumOfPlaces_20 rfl (lv_at hl 2 rfl) ?_
      refine r_callI (As := [.int (iz x2)]) (rest := [.int (iz x1)]) (rm := rmX5_placeOf) C hw (is5_s is5_at6) (is5_l is5_at6) cO5 tw4_186 tw3_167 tw3_168 tw1_5 tw3_169 hd_X5_placeOf rfl ⟨⟨rfl, rfl⟩, Nat.le_of_ble_eq_true rfl, Nat.le_of_ble_eq_true rfl⟩ hl.1 rfl (Nat.le_of_ble_eq_true rfl) dX10_sumOfPlaces_21 hf (fun o ho => c_X5_placeOf l X hinj hZ N S 6 x2 is5_at6 o ho) (fun v21 S21 H locs hf hw => ?_)
      refine r_iadd C dX10_sumOfPlaces_24 ?_
      refine lv_istore_n (lv' := [(1, .int (iz (x1 + v21))), (0, .ref (X.2.2 0)), (2, .int (iz x2))]) C.1.1 C.1.2.1 dX10_sumOfPlaces_25 rfl hl (by decide) rfl (fun ls hl => ?_)
      refine lv_iinc (v := iz (x2 + 1)) (lv' := [(2, .int (iz (x2 + 1))), (1, .int (iz (x1 + v21))), (0, .ref (X.2.2 0))]) C.1.1 C.1.2.1 dX10_sumOfPlaces_26 hl (k := 2) rfl (iz_add _ _) (by decide) rfl (fun ls hl => ?_)
      refine lv_goto (tgt := 4) C.1.1 C.1.2.1 dX10_sumOfPlaces_29 (by decide) ?_
      exact ih (x1 + v21) (x2 + 1) S21 H locs ls hf hw (lv_sub hl [2, 1, 0] rfl)
set_option maxRecDepth 100000 in
set_option maxHeartbeats 4000000 in
theorem c_X10_sumOfPlaces (l : Launch) (X : XT) (hinj : XInj X nC) (hZ : ZOK (Zc X)) (N : Nat) (S : S2) (out : Int × S2) (hf : f_X10_sumOfPlaces N S = some out) : MI l X shC nC (Zc X) yX10_sumOfPlaces cX10_sumOfPlaces 3 (some .int) rmX10_sumOfPlaces [.ref (X.2.2 0)] S out := by
  refine met_I (own := RX10) (by decide) rfl hinj hZ (Nat.le_of_ble_eq_true rfl) (fun p e s m args below meth c C ls H locs hw hl => ?_)
  unfold f_X10_sumOfPlaces at hf
  have hl : lv_has ls 3 [(0, .ref (X.2.2 0))] := hl
  refine r_iconst (v := 0) C dX10_sumOfPlaces_0 ?_
  refine lv_istore_n (lv' := [(1, .int (iz 0)), (0, .ref (X.2.2 0))]) C.1.1 C.1.2.1 dX10_sumOfPlaces_1 rfl hl (by decide) rfl (fun ls hl => ?_)
  refine r_iconst (v := 0) C dX10_sumOfPlaces_2 ?_
  refine lv_istore_n (lv' := [(2, .int (iz 0)), (1, .int (iz 0)), (0, .ref (X.2.2 0))]) C.1.1 C.1.2.1 dX10_sumOfPlaces_3 rfl hl (by decide) rfl (fun ls hl => ?_)
  exact (w_X10_sumOfPlaces_4 l hinj hZ C out N) 0 0 S H locs ls hf hw (lv_sub hl [2, 1, 0] rfl)
def f_X10_sumOfAreas_4 : Nat → Int → Int → S2 → Option (Int × S2)
  | 0, _, _, _ => none
  | N + 1, x1, x2, S => gI S 6 1 fun v9 => cI x2 v9 (if v9 ≤ x2 then rI x1 S else bI (f_X5_area N S 6 4 x2) fun v25 S25 => (f_X10_sumOfAreas_4 N) (x1 + v25) (x2 + 1) S25)
def f_X10_sumOfAreas (N : Nat) (S : S2) : Option (Int × S2) := (f_X10_sumOfAreas_4 N) 0 0 S
abbrev rmX10_sumOfAreas : Room := { frames := 4, cells := 0, slots := 0, locals := 98 }
theorem hd_X10_sumOfAreas : yX10_sumOfAreas.cls ≠ "java/lang/invoke/MethodHandle" ∧ yX10_sumOfAreas.cls ≠ "java/lang/invoke/VarHandle" ∧ (parseMethodDescriptor yX10_sumOfAreas.desc).map (fun d => d.parameters.length) = some 0 := by decide +kernel
set_option maxRecDepth 100000 in
set_option maxHeartbeats 4000000 in
theorem w_X10_sumOfAreas_4 {p : Program} (l : Launch) {e : Env} {s : State} {m : MethodId} {args : Array Value} {below : List Frame} {meth : Method} {c : Code} {X : XT} (hinj : XInj X nC) (hZ : ZOK (Zc X)) (C : CX p s m args meth c cX10_sumOfAreas 3 RX10 (some .int) X nC (Zc X)) (out : Int × S2) : ∀ (N : Nat), ∀ (x1 : Int) (x2 : Int) (S : S2) (H : Heap) (locs : List Loc) (ls : Array Slot), f_X10_sumOfAreas_4 N x1 x2 S = some out → WH X shC nC s S H locs → lv_has ls 3 [(0, .ref (X.2.2 0)), (1, .int (iz x1)), (2, .int (iz x2))] → W p l e rmX10_sumOfAreas s m args below meth c H locs 0 0 (QI X shC nC s args below out) (F0 m 4 ls []) := by
  intro N
  induction N with
  | zero => intro x1 x2 S H locs ls hf hw hl; cases hf
  | succ N ih =>
    intro x1 x2 S H locs ls hf hw hl
    rw [f_X10_sumOfAreas_4.eq_2] at hf
    refine lv_iload_n C.1.1 C.1.2.1 dX10_sumOfAreas_4 rfl (lv_at hl 2 rfl) ?_
    refine lv_aload_n C.1.1 C.1.2.1 dX10_sumOfAreas_5 rfl (lv_at hl 0 rfl) ?_
    refine r_getR (k := 3) C hw shC_0 ltC_0 cO10 rfl (by decide) tw2_49 rfl dX10_sumOfAreas_6 ?_
    refine r_getI (k := 1) C hw (is5_s is5_at6) (is5_l is5_at6) cO5 rfl (by decide) tw1_115 rfl dX10_sumOfAreas_9 hf (fun v9 hf => ?_)
    refine r_icmp_ge C (tgt := 36) dX10_sumOfAreas_12 (by decide) hf (fun hf => ?_) (fun hf => ?_)
    · refine lv_iload_n C.1.1 C.1.2.1 dX10_sumOfAreas_36 rfl (lv_at hl 1 rfl) ?_
      exact r_retI C hw dX10_sumOfAreas_37 hf
    · refine lv_iload_n C.1.1 C.1.2.1 dX10_sumOfAreas_15 rfl (lv_at hl 1 rfl) ?_
      refine lv_aload_n C.1.1 C.1.2.1 dX10_sumOfAreas_16 rfl (lv_at hl 0 rfl) ?_
      refine r_getR (k := 3) C hw shC_0 ltC_0 cO10 rfl (by decide) tw2_49 rfl dX10_sumOfAreas_17 ?_
      refine lv_aload_n C.1.1 C.1.2.1 dX10_sumOfAreas_20 rfl (lv_at hl 0 rfl) ?_
      refine r_getR (k := 2) C hw shC_0 ltC_0 cO10 rfl (by decide) tw2_48 rfl dX10_sumOfAreas_21 ?_
      refine lv_iload_n C.1.1 C.1.2.1 dX10_sumOfAreas_24 rfl (lv_at hl 2 rfl) ?_
      refine r_callI (As := [.ref (X.2.2 4), .int (iz x2)]) (rest := [.int (iz x1)]) (rm := rmX5_area) C hw (is5_s is5_at6) (is5_l is5_at6) cO5 tw3_179 tw3_180 tw3_181 tw1_5 tw3_182 hd_X5_area rfl ⟨⟨rfl, rfl⟩, Nat.le_of_ble_eq_true rfl, Nat.le_of_ble_eq_true rfl⟩ hl.1 rfl (Nat.le_of_ble_eq_true rfl) dX10_sumOfAreas_25 hf (fun o ho => c_X5_area l X hinj hZ N S 6 4 x2 is5_at6 is0_at4 o ho) (fun v25 S25 H locs hf hw => ?_)
      refine r_iadd C dX10_sumOfAreas_28 ?_
      refine lv_istore_n (lv' := [(1, .int (iz (x1 + v25))), (0, .ref (X.2.2 0)), (2, .int (iz x2))]) C.1.1 C.1.2.1 dX10_sumOfAreas_29 rfl hl (by decide) rfl (fun ls hl => ?_)
      refine lv_iinc (v := iz (x2 + 1)) (lv' := [(2, .int (iz (x2 + 1))), (1, .int (iz (x1 + v25))), (0, .ref (X.2.2 0))]) C.1.1 C.1.2.1 dX10_sumOfAreas_30 hl (k := 2) rfl (iz_add _ _) (by decide) rfl (fun ls hl => ?_)
      refine lv_goto (tgt := 4) C.1.1 C.1.2.1 dX10_sumOfAreas_33 (by decide) ?_
      exact ih (x1 + v25) (x2 + 1) S25 H locs ls hf hw (lv_sub hl [2, 1, 0] rfl)
set_option maxRecDepth 100000 in
set_option maxHeartbeats 4000000 in
theorem c_X10_sumOfAreas (l : Launch) (X : XT) (hinj : XInj X nC) (hZ : ZOK (Zc X)) (N : Nat) (S : S2) (out : Int × S2) (hf : f_X10_sumOfAreas N S = some out) : MI l X shC nC (Zc X) yX10_sumOfAreas cX10_sumOfAreas 3 (some .int) rmX10_sumOfAreas [.ref (X.2.2 0)] S out := by
  refine met_I (own := RX10) (by decide) rfl hinj hZ (Nat.le_of_ble_eq_true rfl) (fun p e s m args below meth c C ls H locs hw hl => ?_)
  unfold f_X10_sumOfAreas at hf
  have hl : lv_has ls 3 [(0, .ref (X.2.2 0))] := hl
  refine r_iconst (v := 0) C dX10_sumOfAreas_0 ?_
  refine lv_istore_n (lv' := [(1, .int (iz 0)), (0, .ref (X.2.2 0))]) C.1.1 C.1.2.1 dX10_sumOfAreas_1 rfl hl (by decide) rfl (fun ls hl => ?_)
  refine r_iconst (v := 0) C dX10_sumOfAreas_2 ?_
  refine lv_istore_n (lv' := [(2, .int (iz 0)), (1, .int (iz 0)), (0, .ref (X.2.2 0))]) C.1.1 C.1.2.1 dX10_sumOfAreas_3 rfl hl (by decide) rfl (fun ls hl => ?_)
  exact (w_X10_sumOfAreas_4 l hinj hZ C out N) 0 0 S H locs ls hf hw (lv_sub hl [2, 1, 0] rfl)
def f_X10_greatestGeneration_4 : Nat → Int → Int → S2 → Option (Int × S2)
  | 0, _, _, _ => none
  | N + 1, x1, x2, S => gI S 6 0 fun v9 => cI x2 v9 (if v9 ≤ x2 then rI x1 S else bI (f_X5_generationOf N S 6 x2) fun v21 S21 => mxI x1 v21 fun v24 => (f_X10_greatestGeneration_4 N) v24 (x2 + 1) S21)
def f_X10_greatestGeneration (N : Nat) (S : S2) : Option (Int × S2) := (f_X10_greatestGeneration_4 N) 0 0 S
abbrev rmX10_greatestGeneration : Room := { frames := 1, cells := 0, slots := 0, locals := 21 }
theorem hd_X10_greatestGeneration : yX10_greatestGeneration.cls ≠ "java/lang/invoke/MethodHandle" ∧ yX10_greatestGeneration.cls ≠ "java/lang/invoke/VarHandle" ∧ (parseMethodDescriptor yX10_greatestGeneration.desc).map (fun d => d.parameters.length) = some 0 := by decide +kernel
set_option maxRecDepth 100000 in
set_option maxHeartbeats 4000000 in
theorem w_X10_greatestGeneration_4 {p : Program} (l : Launch) {e : Env} {s : State} {m : MethodId} {args : Array Value} {below : List Frame} {meth : Method} {c : Code} {X : XT} (hinj : XInj X nC) (hZ : ZOK (Zc X)) (C : CX p s m args meth c cX10_greatestGeneration 3 RX10 (some .int) X nC (Zc X)) (out : Int × S2) : ∀ (N : Nat), ∀ (x1 : Int) (x2 : Int) (S : S2) (H : Heap) (locs : List Loc) (ls : Array Slot), f_X10_greatestGeneration_4 N x1 x2 S = some out → WH X shC nC s S H locs → lv_has ls 3 [(0, .ref (X.2.2 0)), (1, .int (iz x1)), (2, .int (iz x2))] → W p l e rmX10_greatestGeneration s m args below meth c H locs 0 0 (QI X shC nC s args below out) (F0 m 4 ls []) := by
  intro N
  induction N with
  | zero => intro x1 x2 S H locs ls hf hw hl; cases hf
  | succ N ih =>
    intro x1 x2 S H locs ls hf hw hl
    rw [f_X10_greatestGeneration_4.eq_2] at hf
    refine lv_iload_n C.1.1 C.1.2.1 dX10_greatestGeneration_4 rfl (lv_at hl 2 rfl) ?_
    refine lv_aload_n C.1.1 C.1.2.1 dX10_greatestGeneration_5 rfl (lv_at hl 0 rfl) ?_
    refine r_getR (k := 3) C hw shC_0 ltC_0 cO10 rfl (by decide) tw2_49 rfl dX10_greatestGeneration_6 ?_
    refine r_getI (k := 0) C hw (is5_s is5_at6) (is5_l is5_at6) cO5 rfl (by decide) tw1_112 rfl dX10_greatestGeneration_9 hf (fun v9 hf => ?_)
    refine r_icmp_ge C (tgt := 34) dX10_greatestGeneration_12 (by decide) hf (fun hf => ?_) (fun hf => ?_)
    · refine lv_iload_n C.1.1 C.1.2.1 dX10_greatestGeneration_34 rfl (lv_at hl 1 rfl) ?_
      exact r_retI C hw dX10_greatestGeneration_35 hf
    · refine lv_iload_n C.1.1 C.1.2.1 dX10_greatestGeneration_15 rfl (lv_at hl 1 rfl) ?_
      refine lv_aload_n C.1.1 C.1.2.1 dX10_greatestGeneration_16 rfl (lv_at hl 0 rfl) ?_
      refine r_getR (k := 3) C hw shC_0 ltC_0 cO10 rfl (by decide) tw2_49 rfl dX10_greatestGeneration_17 ?_
      refine lv_iload_n C.1.1 C.1.2.1 dX10_greatestGeneration_20 rfl (lv_at hl 2 rfl) ?_
      refine r_callI (As := [.int (iz x2)]) (rest := [.int (iz x1)]) (rm := rmX5_generationOf) C hw (is5_s is5_at6) (is5_l is5_at6) cO5 tw4_196 tw4_197 tw4_198 tw1_5 tw4_199 hd_X5_generationOf rfl ⟨⟨rfl, rfl⟩, Nat.le_of_ble_eq_true rfl, Nat.le_of_ble_eq_true rfl⟩ hl.1 rfl (Nat.le_of_ble_eq_true rfl) dX10_greatestGeneration_21 hf (fun o ho => c_X5_generationOf l X hinj hZ N S 6 x2 is5_at6 o ho) (fun v21 S21 H locs hf hw => ?_)
      refine r_max C tw4_167 tw3_86 tw1_18 tw3_87 hl.1 (Nat.le_of_ble_eq_true rfl) (Nat.le_of_ble_eq_true rfl) dX10_greatestGeneration_24 hf (fun v24 hf => ?_)
      refine lv_istore_n (lv' := [(1, .int (iz v24)), (0, .ref (X.2.2 0)), (2, .int (iz x2))]) C.1.1 C.1.2.1 dX10_greatestGeneration_27 rfl hl (by decide) rfl (fun ls hl => ?_)
      refine lv_iinc (v := iz (x2 + 1)) (lv' := [(2, .int (iz (x2 + 1))), (1, .int (iz v24)), (0, .ref (X.2.2 0))]) C.1.1 C.1.2.1 dX10_greatestGeneration_28 hl (k := 2) rfl (iz_add _ _) (by decide) rfl (fun ls hl => ?_)
      refine lv_goto (tgt := 4) C.1.1 C.1.2.1 dX10_greatestGeneration_31 (by decide) ?_
      exact ih v24 (x2 + 1) S21 H locs ls hf hw (lv_sub hl [2, 1, 0] rfl)
set_option maxRecDepth 100000 in
set_option maxHeartbeats 4000000 in
theorem c_X10_greatestGeneration (l : Launch) (X : XT) (hinj : XInj X nC) (hZ : ZOK (Zc X)) (N : Nat) (S : S2) (out : Int × S2) (hf : f_X10_greatestGeneration N S = some out) : MI l X shC nC (Zc X) yX10_greatestGeneration cX10_greatestGeneration 3 (some .int) rmX10_greatestGeneration [.ref (X.2.2 0)] S out := by
  refine met_I (own := RX10) (by decide) rfl hinj hZ (Nat.le_of_ble_eq_true rfl) (fun p e s m args below meth c C ls H locs hw hl => ?_)
  unfold f_X10_greatestGeneration at hf
  have hl : lv_has ls 3 [(0, .ref (X.2.2 0))] := hl
  refine r_iconst (v := 0) C dX10_greatestGeneration_0 ?_
  refine lv_istore_n (lv' := [(1, .int (iz 0)), (0, .ref (X.2.2 0))]) C.1.1 C.1.2.1 dX10_greatestGeneration_1 rfl hl (by decide) rfl (fun ls hl => ?_)
  refine r_iconst (v := 0) C dX10_greatestGeneration_2 ?_
  refine lv_istore_n (lv' := [(2, .int (iz 0)), (1, .int (iz 0)), (0, .ref (X.2.2 0))]) C.1.1 C.1.2.1 dX10_greatestGeneration_3 rfl hl (by decide) rfl (fun ls hl => ?_)
  exact (w_X10_greatestGeneration_4 l hinj hZ C out N) 0 0 S H locs ls hf hw (lv_sub hl [2, 1, 0] rfl)
def f_X10_widestKept_44 (k4 : Int → Int → S2 → Option (Int × S2)) (N : Nat) (x1 : Int) (x2 : Int) (S : S2) : Option (Int × S2) := k4 x1 (x2 + 1) S
def f_X10_widestKept_4 : Nat → Int → Int → S2 → Option (Int × S2)
  | 0, _, _, _ => none
  | N + 1, x1, x2, S => gI S 6 1 fun v9 => cI x2 v9 (if v9 ≤ x2 then rI x1 S else bI (f_X5_width N S 6 4 x2) fun v24 S24 => bI (f_X5_width N S24 6 4 x1) fun v36 S36 => cI v24 v36 (if v24 ≤ v36 then (f_X10_widestKept_44 (f_X10_widestKept_4 N) N) x1 x2 S36 else (f_X10_widestKept_44 (f_X10_widestKept_4 N) N) x2 x2 S36))
def f_X10_widestKept (N : Nat) (S : S2) : Option (Int × S2) := (f_X10_widestKept_4 N) 0 1 S
abbrev rmX10_widestKept : Room := { frames := 3, cells := 0, slots := 0, locals := 66 }
theorem hd_X10_widestKept : yX10_widestKept.cls ≠ "java/lang/invoke/MethodHandle" ∧ yX10_widestKept.cls ≠ "java/lang/invoke/VarHandle" ∧ (parseMethodDescriptor yX10_widestKept.desc).map (fun d => d.parameters.length) = some 0 := by decide +kernel
set_option maxRecDepth 100000 in
set_option maxHeartbeats 4000000 in
theorem w_X10_widestKept_44 {p : Program} (l : Launch) {e : Env} {s : State} {m : MethodId} {args : Array Value} {below : List Frame} {meth : Method} {c : Code} {X : XT} (hinj : XInj X nC) (hZ : ZOK (Zc X)) (C : CX p s m args meth c cX10_widestKept 3 RX10 (some .int) X nC (Zc X)) (out : Int × S2) (k4 : Int → Int → S2 → Option (Int × S2)) (hk4 : ∀ (x1 : Int) (x2 : Int) (S : S2) (H : Heap) (locs : List Loc) (ls : Array Slot), k4 x1 x2 S = some out → WH X shC nC s S H locs → lv_has ls 3 [(0, .ref (X.2.2 0)), (1, .int (iz x1)), (2, .int (iz x2))] → W p l e rmX10_widestKept s m args below meth c H locs 0 0 (QI X shC nC s args below out) (F0 m 4 ls [])) : ∀ (N : Nat), ∀ (x1 : Int) (x2 : Int) (S : S2) (H : Heap) (locs : List Loc) (ls : Array Slot), f_X10_widestKept_44 k4 N x1 x2 S = some out → WH X shC nC s S H locs → lv_has ls 3 [(0, .ref (X.2.2 0)), (1, .int (iz x1)), (2, .int (iz x2))] → W p l e rmX10_widestKept s m args below meth c H locs 0 0 (QI X shC nC s args below out) (F0 m 44 ls []) := by
  intro N x1 x2 S H locs ls hf hw hl
  unfold f_X10_widestKept_44 at hf
  refine lv_iinc (v := iz (x2 + 1)) (lv' := [(2, .int (iz (x2 + 1))), (0, .ref (X.2.2 0)), (1, .int (iz x1))]) C.1.1 C.1.2.1 dX10_widestKept_44 hl (k := 2) rfl (iz_add _ _) (by decide) rfl (fun ls hl => ?_)
  refine lv_goto (tgt := 4) C.1.1 C.1.2.1 dX10_widestKept_47 (by decide) ?_
  exact hk4 x1 (x2 + 1) S H locs ls hf hw (lv_sub hl [1, 2, 0] rfl)
set_option maxRecDepth 100000 in
set_option maxHeartbeats 4000000 in
theorem w_X10_widestKept_4 {p : Program} (l : Launch) {e : Env} {s : State} {m : MethodId} {args : Array Value} {below : List Frame} {meth : Method} {c : Code} {X : XT} (hinj : XInj X nC) (hZ : ZOK (Zc X)) (C : CX p s m args meth c cX10_widestKept 3 RX10 (some .int) X nC (Zc X)) (out : Int × S2) : ∀ (N : Nat), ∀ (x1 : Int) (x2 : Int) (S : S2) (H : Heap) (locs : List Loc) (ls : Array Slot), f_X10_widestKept_4 N x1 x2 S = some out → WH X shC nC s S H locs → lv_has ls 3 [(0, .ref (X.2.2 0)), (1, .int (iz x1)), (2, .int (iz x2))] → W p l e rmX10_widestKept s m args below meth c H locs 0 0 (QI X shC nC s args below out) (F0 m 4 ls []) := by
  intro N
  induction N with
  | zero => intro x1 x2 S H locs ls hf hw hl; cases hf
  | succ N ih =>
    intro x1 x2 S H locs ls hf hw hl
    rw [f_X10_widestKept_4.eq_2] at hf
    refine lv_iload_n C.1.1 C.1.2.1 dX10_widestKept_4 rfl (lv_at hl 2 rfl) ?_
    refine lv_aload_n C.1.1 C.1.2.1 dX10_widestKept_5 rfl (lv_at hl 0 rfl) ?_
    refine r_getR (k := 3) C hw shC_0 ltC_0 cO10 rfl (by decide) tw2_49 rfl dX10_widestKept_6 ?_
    refine r_getI (k := 1) C hw (is5_s is5_at6) (is5_l is5_at6) cO5 rfl (by decide) tw1_115 rfl dX10_widestKept_9 hf (fun v9 hf => ?_)
    refine r_icmp_ge C (tgt := 50) dX10_widestKept_12 (by decide) hf (fun hf => ?_) (fun hf => ?_)
    · refine lv_iload_n C.1.1 C.1.2.1 dX10_widestKept_50 rfl (lv_at hl 1 rfl) ?_
      exact r_retI C hw dX10_widestKept_51 hf
    · refine lv_aload_n C.1.1 C.1.2.1 dX10_widestKept_15 rfl (lv_at hl 0 rfl) ?_
      refine r_getR (k := 3) C hw shC_0 ltC_0 cO10 rfl (by decide) tw2_49 rfl dX10_widestKept_16 ?_
      refine lv_aload_n C.1.1 C.1.2.1 dX10_widestKept_19 rfl (lv_at hl 0 rfl) ?_
      refine r_getR (k := 2) C hw shC_0 ltC_0 cO10 rfl (by decide) tw2_48 rfl dX10_widestKept_20 ?_
      refine lv_iload_n C.1.1 C.1.2.1 dX10_widestKept_23 rfl (lv_at hl 2 rfl) ?_
      refine r_callI (As := [.ref (X.2.2 4), .int (iz x2)]) (rest := []) (rm := rmX5_width) C hw (is5_s is5_at6) (is5_l is5_at6) cO5 tw3_186 tw3_187 tw3_188 tw1_5 tw3_189 hd_X5_width rfl ⟨⟨rfl, rfl⟩, Nat.le_of_ble_eq_true rfl, Nat.le_of_ble_eq_true rfl⟩ hl.1 rfl (Nat.le_of_ble_eq_true rfl) dX10_widestKept_24 hf (fun o ho => c_X5_width l X hinj hZ N S 6 4 x2 is5_at6 is0_at4 o ho) (fun v24 S24 H locs hf hw => ?_)
      refine lv_aload_n C.1.1 C.1.2.1 dX10_widestKept_27 rfl (lv_at hl 0 rfl) ?_
      refine r_getR (k := 3) C hw shC_0 ltC_0 cO10 rfl (by decide) tw2_49 rfl dX10_widestKept_28 ?_
      refine lv_aload_n C.1.1 C.1.2.1 dX10_widestKept_31 rfl (lv_at hl 0 rfl) ?_
      refine r_getR (k := 2) C hw shC_0 ltC_0 cO10 rfl (by decide) tw2_48 rfl dX10_widestKept_32 ?_
      refine lv_iload_n C.1.1 C.1.2.1 dX10_widestKept_35 rfl (lv_at hl 1 rfl) ?_
      refine r_callI (As := [.ref (X.2.2 4), .int (iz x1)]) (rest := [.int (iz v24)]) (rm := rmX5_width) C hw (is5_s is5_at6) (is5_l is5_at6) cO5 tw3_186 tw3_187 tw3_188 tw1_5 tw3_189 hd_X5_width rfl ⟨⟨rfl, rfl⟩, Nat.le_of_ble_eq_true rfl, Nat.le_of_ble_eq_true rfl⟩ hl.1 rfl (Nat.le_of_ble_eq_true rfl) dX10_widestKept_36 hf (fun o ho => c_X5_width l X hinj hZ N S24 6 4 x1 is5_at6 is0_at4 o ho) (fun v36 S36 H locs hf hw => ?_)
      refine r_icmp_le C (tgt := 44) dX10_widestKept_39 (by decide) hf (fun hf => ?_) (fun hf => ?_)
      · exact (w_X10_widestKept_44 l hinj hZ C out (f_X10_widestKept_4 N) ih N) x1 x2 S36 H locs ls hf hw (lv_sub hl [0, 1, 2] rfl)
      · refine lv_iload_n C.1.1 C.1.2.1 dX10_widestKept_42 rfl (lv_at hl 2 rfl) ?_
        refine lv_istore_n (lv' := [(1, .int (iz x2)), (0, .ref (X.2.2 0)), (2, .int (iz x2))]) C.1.1 C.1.2.1 dX10_widestKept_43 rfl hl (by decide) rfl (fun ls hl => ?_)
        exact (w_X10_widestKept_44 l hinj hZ C out (f_X10_widestKept_4 N) ih N) x2 x2 S36 H locs ls hf hw (lv_sub hl [1, 0, 2] rfl)
set_option maxRecDepth 100000 in
set_option maxHeartbeats 4000000 in
theorem c_X10_widestKept (l : Launch) (X : XT) (hinj : XInj X nC) (hZ : ZOK (Zc X)) (N : Nat) (S : S2) (out : Int × S2) (hf : f_X10_widestKept N S = some out) : MI l X shC nC (Zc X) yX10_widestKept cX10_widestKept 3 (some .int) rmX10_widestKept [.ref (X.2.2 0)] S out := by
  refine met_I (own := RX10) (by decide) rfl hinj hZ (Nat.le_of_ble_eq_true rfl) (fun p e s m args below meth c C ls H locs hw hl => ?_)
  unfold f_X10_widestKept at hf
  have hl : lv_has ls 3 [(0, .ref (X.2.2 0))] := hl
  refine r_iconst (v := 0) C dX10_widestKept_0 ?_
  refine lv_istore_n (lv' := [(1, .int (iz 0)), (0, .ref (X.2.2 0))]) C.1.1 C.1.2.1 dX10_widestKept_1 rfl hl (by decide) rfl (fun ls hl => ?_)
  refine r_iconst (v := 1) C dX10_widestKept_2 ?_
  refine lv_istore_n (lv' := [(2, .int (iz 1)), (1, .int (iz 0)), (0, .ref (X.2.2 0))]) C.1.1 C.1.2.1 dX10_widestKept_3 rfl hl (by decide) rfl (fun ls hl => ?_)
  exact (w_X10_widestKept_4 l hinj hZ C out N) 0 1 S H locs ls hf hw (lv_sub hl [2, 1, 0] rfl)
def f_X10_image (N : Nat) (S : S2) : Option (Int × S2) := bI (f_X10_noTrace N S) fun v1 S1 => cI v1 0 (if v1 = 0 then bV (f_X0_copyFrom N S1 48 4) fun S17 => bV (f_X4_copyFrom N S17 50 27) fun S28 => gI S28 6 1 fun v35 => rI v35 S28 else rI (-1) S1)
abbrev rmX10_image : Room := { frames := 2, cells := 0, slots := 0, locals := 47 }
theorem hd_X10_image : yX10_image.cls ≠ "java/lang/invoke/MethodHandle" ∧ yX10_image.cls ≠ "java/lang/invoke/VarHandle" ∧ (parseMethodDescriptor yX10_image.desc).map (fun d => d.parameters.length) = some 0 := by decide +kernel
set_option maxRecDepth 100000 in
set_option maxHeartbeats 4000000 in
theorem c_X10_image (l : Launch) (X : XT) (hinj : XInj X nC) (hZ : ZOK (Zc X)) (N : Nat) (S : S2) (out : Int × S2) (hf : f_X10_image N S = some out) : MI l X shC nC (Zc X) yX10_image cX10_image 1 (some .int) rmX10_image [.ref (X.2.2 0)] S out := by
  refine met_I (own := RX10) (by decide) rfl hinj hZ (Nat.le_of_ble_eq_true rfl) (fun p e s m args below meth c C ls H locs hw hl => ?_)
  unfold f_X10_image at hf
  have hl : lv_has ls 1 [(0, .ref (X.2.2 0))] := hl
  refine lv_aload_n C.1.1 C.1.2.1 dX10_image_0 rfl (lv_at hl 0 rfl) ?_
  refine r_callI (As := []) (rest := []) (rm := rmX10_noTrace) C hw shC_0 ltC_0 cO10 tw3_133 tw3_135 tp_22 tw1_1 tw3_136 hd_X10_noTrace rfl ⟨⟨rfl, rfl⟩, Nat.le_of_ble_eq_true rfl, Nat.le_of_ble_eq_true rfl⟩ hl.1 rfl (Nat.le_of_ble_eq_true rfl) dX10_image_1 hf (fun o ho => c_X10_noTrace l X hinj hZ N S o ho) (fun v1 S1 H locs hf hw => ?_)
  refine r_if_eq C (tgt := 9) dX10_image_4 (by decide) hf (fun hf => ?_) (fun hf => ?_)
  · refine lv_aload_n C.1.1 C.1.2.1 dX10_image_9 rfl (lv_at hl 0 rfl) ?_
    refine r_getR (k := 11) C hw shC_0 ltC_0 cO10 rfl (by decide) tw2_57 rfl dX10_image_10 ?_
    refine lv_aload_n C.1.1 C.1.2.1 dX10_image_13 rfl (lv_at hl 0 rfl) ?_
    refine r_getR (k := 2) C hw shC_0 ltC_0 cO10 rfl (by decide) tw2_48 rfl dX10_image_14 ?_
    refine r_callV (As := [.ref (X.2.2 4)]) (rest := []) (rm := rmX0_copyFrom) C hw (is0_s is0_at48) (is0_l is0_at48) cO0 tw3_50 tw3_51 tw3_52 tw1_4 tw3_53 hd_X0_copyFrom rfl ⟨⟨rfl, rfl⟩, Nat.le_of_ble_eq_true rfl, Nat.le_of_ble_eq_true rfl⟩ hl.1 rfl (Nat.le_of_ble_eq_true rfl) dX10_image_17 hf (fun o ho => c_X0_copyFrom l X hinj hZ N S1 48 4 is0_at48 is0_at4 o ho) (fun S17 H locs hf hw => ?_)
    refine lv_aload_n C.1.1 C.1.2.1 dX10_image_20 rfl (lv_at hl 0 rfl) ?_
    refine r_getR (k := 12) C hw shC_0 ltC_0 cO10 rfl (by decide) tw2_58 rfl dX10_image_21 ?_
    refine lv_aload_n C.1.1 C.1.2.1 dX10_image_24 rfl (lv_at hl 0 rfl) ?_
    refine r_getR (k := 6) C hw shC_0 ltC_0 cO10 rfl (by decide) tw2_52 rfl dX10_image_25 ?_
    refine r_callV (As := [.ref (X.2.2 27)]) (rest := []) (rm := rmX4_copyFrom) C hw (is4_s is4_at50) (is4_l is4_at50) cO4 tw5_42 tw5_43 tw5_44 tw1_8 tw5_45 hd_X4_copyFrom rfl ⟨⟨rfl, rfl⟩, Nat.le_of_ble_eq_true rfl, Nat.le_of_ble_eq_true rfl⟩ hl.1 rfl (Nat.le_of_ble_eq_true rfl) dX10_image_28 hf (fun o ho => c_X4_copyFrom l X hinj hZ N S17 50 27 is4_at50 is4_at27 o ho) (fun S28 H locs hf hw => ?_)
    refine lv_aload_n C.1.1 C.1.2.1 dX10_image_31 rfl (lv_at hl 0 rfl) ?_
    refine r_getR (k := 3) C hw shC_0 ltC_0 cO10 rfl (by decide) tw2_49 rfl dX10_image_32 ?_
    refine r_getI (k := 1) C hw (is5_s is5_at6) (is5_l is5_at6) cO5 rfl (by decide) tw1_115 rfl dX10_image_35 hf (fun v35 hf => ?_)
    exact r_retI C hw dX10_image_38 hf
  · refine r_iconst (v := (-1)) C dX10_image_7 ?_
    exact r_retI C hw dX10_image_8 hf
def f_X10_held (N : Nat) (S : S2) (a1 : Int) : Option (Int × S2) := cI a1 0 (if a1 = 0 then gI S 4 1 fun v40 => rI v40 S else (if a1 = 1 then gI S 0 8 fun v45 => rI v45 S else (if a1 = 2 then gI S 2 1 fun v53 => rI v53 S else (if a1 = 3 then bI (f_X4_shown N S 27) fun v61 S61 => rI v61 S61 else (if a1 = 4 then gI S 25 0 fun v69 => rI v69 S else rI (-1000000) S)))))
abbrev rmX10_held : Room := { frames := 2, cells := 0, slots := 0, locals := 41 }
theorem hd_X10_held : yX10_held.cls ≠ "java/lang/invoke/MethodHandle" ∧ yX10_held.cls ≠ "java/lang/invoke/VarHandle" ∧ (parseMethodDescriptor yX10_held.desc).map (fun d => d.parameters.length) = some 1 := by decide +kernel
set_option maxRecDepth 100000 in
set_option maxHeartbeats 4000000 in
theorem c_X10_held (l : Launch) (X : XT) (hinj : XInj X nC) (hZ : ZOK (Zc X)) (N : Nat) (S : S2) (a1 : Int) (out : Int × S2) (hf : f_X10_held N S a1 = some out) : MI l X shC nC (Zc X) yX10_held cX10_held 2 (some .int) rmX10_held [.ref (X.2.2 0), .int (iz a1)] S out := by
  refine met_I (own := RX10) (by decide) rfl hinj hZ (Nat.le_of_ble_eq_true rfl) (fun p e s m args below meth c C ls H locs hw hl => ?_)
  unfold f_X10_held at hf
  have hl : lv_has ls 2 [(0, .ref (X.2.2 0)), (1, .int (iz a1))] := hl
  refine lv_iload_n C.1.1 C.1.2.1 dX10_held_0 rfl (lv_at hl 1 rfl) ?_
  obtain ⟨⟨hsw, -⟩, hf⟩ := cI_some hf
  rcases ite_some hf with ⟨hc1_0, hf⟩ | ⟨hc1_0, hf⟩
  · refine lv_tableIn (tgt := 36) C.1.1 C.1.2.1 dX10_held_1 (by rw [hc1_0]; decide) (by rw [hc1_0]; decide) (by rw [hc1_0]; rfl) (by decide) ?_
    refine lv_aload_n C.1.1 C.1.2.1 dX10_held_36 rfl (lv_at hl 0 rfl) ?_
    refine r_getR (k := 2) C hw shC_0 ltC_0 cO10 rfl (by decide) tw2_48 rfl dX10_held_37 ?_
    refine r_getI (k := 1) C hw (is0_s is0_at4) (is0_l is0_at4) cO0 rfl (by decide) tw1_92 rfl dX10_held_40 hf (fun v40 hf => ?_)
    exact r_retI C hw dX10_held_43 hf
  · skip
    rcases ite_some hf with ⟨hc1_1, hf⟩ | ⟨hc1_1, hf⟩
    · refine lv_tableIn (tgt := 44) C.1.1 C.1.2.1 dX10_held_1 (by rw [hc1_1]; decide) (by rw [hc1_1]; decide) (by rw [hc1_1]; rfl) (by decide) ?_
      refine lv_aload_n C.1.1 C.1.2.1 dX10_held_44 rfl (lv_at hl 0 rfl) ?_
      refine r_getI (k := 8) C hw shC_0 ltC_0 cO10 rfl (by decide) tw2_54 rfl dX10_held_45 hf (fun v45 hf => ?_)
      exact r_retI C hw dX10_held_48 hf
    · skip
      rcases ite_some hf with ⟨hc1_2, hf⟩ | ⟨hc1_2, hf⟩
      · refine lv_tableIn (tgt := 49) C.1.1 C.1.2.1 dX10_held_1 (by rw [hc1_2]; decide) (by rw [hc1_2]; decide) (by rw [hc1_2]; rfl) (by decide) ?_
        refine lv_aload_n C.1.1 C.1.2.1 dX10_held_49 rfl (lv_at hl 0 rfl) ?_
        refine r_getR (k := 1) C hw shC_0 ltC_0 cO10 rfl (by decide) tw2_47 rfl dX10_held_50 ?_
        refine r_getI (k := 1) C hw (is9_s is9_at2) (is9_l is9_at2) cO9 rfl (by decide) tw1_45 rfl dX10_held_53 hf (fun v53 hf => ?_)
        exact r_retI C hw dX10_held_56 hf
      · skip
        rcases ite_some hf with ⟨hc1_3, hf⟩ | ⟨hc1_3, hf⟩
        · refine lv_tableIn (tgt := 57) C.1.1 C.1.2.1 dX10_held_1 (by rw [hc1_3]; decide) (by rw [hc1_3]; decide) (by rw [hc1_3]; rfl) (by decide) ?_
          refine lv_aload_n C.1.1 C.1.2.1 dX10_held_57 rfl (lv_at hl 0 rfl) ?_
          refine r_getR (k := 6) C hw shC_0 ltC_0 cO10 rfl (by decide) tw2_52 rfl dX10_held_58 ?_
          refine r_callI (As := []) (rest := []) (rm := rmX4_shown) C hw (is4_s is4_at27) (is4_l is4_at27) cO4 tw5_55 tw4_146 tw4_147 tw1_8 tw4_148 hd_X4_shown rfl ⟨⟨rfl, rfl⟩, Nat.le_of_ble_eq_true rfl, Nat.le_of_ble_eq_true rfl⟩ hl.1 rfl (Nat.le_of_ble_eq_true rfl) dX10_held_61 hf (fun o ho => c_X4_shown l X hinj hZ N S 27 is4_at27 o ho) (fun v61 S61 H locs hf hw => ?_)
          exact r_retI C hw dX10_held_64 hf
        · skip
          rcases ite_some hf with ⟨hc1_4, hf⟩ | ⟨hc1_4, hf⟩
          · refine lv_tableIn (tgt := 65) C.1.1 C.1.2.1 dX10_held_1 (by rw [hc1_4]; decide) (by rw [hc1_4]; decide) (by rw [hc1_4]; rfl) (by decide) ?_
            refine lv_aload_n C.1.1 C.1.2.1 dX10_held_65 rfl (lv_at hl 0 rfl) ?_
            refine r_getR (k := 5) C hw shC_0 ltC_0 cO10 rfl (by decide) tw2_51 rfl dX10_held_66 ?_
            refine r_getI (k := 0) C hw (is2_s is2_at25) (is2_l is2_at25) cO2 rfl (by decide) tw1_203 rfl dX10_held_69 hf (fun v69 hf => ?_)
            exact r_retI C hw dX10_held_72 hf
          · skip
            refine lv_tableOut (tgt := 73) C.1.1 C.1.2.1 dX10_held_1 (by rw [sw_in hsw]; omega) (by decide) ?_
            refine r_ldcw (v := (-1000000)) C tw4_173 (by decide) dX10_held_73 ?_
            exact r_retI C hw dX10_held_76 hf
def f_X0_refusal_41 (c0 : Nat) (N : Nat) (x1 : Int) (x2 : Int) (x3 : Int) (S : S2) : Option (Int × S2) := bI (f_X0_inBounds N S c0 x1 x2 x3) fun v45 S45 => cI v45 0 (if v45 = 0 then rI 1 S45 else rI (-1) S45)
def f_X0_refusal_17 (c0 : Nat) (N : Nat) (x1 : Int) (x2 : Int) (x3 : Int) (y0 : Int) (S : S2) : Option (Int × S2) := gI S c0 1 fun v20 => cI v20 0 (if v20 = 0 then rI 0 S else cI y0 0 (if y0 = 0 then (f_X0_refusal_41 c0 N) x1 x2 x3 S else bI (f_X0_has N S c0 x2) fun v33 S33 => cI v33 0 (if v33 = 0 then rI 0 S33 else (f_X0_refusal_41 c0 N) x1 x2 x3 S33)))
def f_X0_refusal_12 (c0 : Nat) (N : Nat) (x1 : Int) (x2 : Int) (x3 : Int) (S : S2) : Option (Int × S2) := (f_X0_refusal_17 c0 N) x1 x2 x3 1 S
def f_X0_refusal (N : Nat) (S : S2) (c0 : Nat) (a1 : Int) (a2 : Int) (a3 : Int) : Option (Int × S2) := cI a1 7 (if a1 = 7 then (f_X0_refusal_12 c0 N) a1 a2 a3 S else cI a1 9 (if a1 = 9 then (f_X0_refusal_12 c0 N) a1 a2 a3 S else (f_X0_refusal_17 c0 N) a1 a2 a3 0 S))
abbrev rmX0_refusal : Room := { frames := 1, cells := 0, slots := 0, locals := 23 }
theorem hd_X0_refusal : yX0_refusal.cls ≠ "java/lang/invoke/MethodHandle" ∧ yX0_refusal.cls ≠ "java/lang/invoke/VarHandle" ∧ (parseMethodDescriptor yX0_refusal.desc).map (fun d => d.parameters.length) = some 3 := by decide +kernel
set_option maxRecDepth 100000 in
set_option maxHeartbeats 4000000 in
theorem w_X0_refusal_41 {p : Program} (l : Launch) {e : Env} {s : State} {m : MethodId} {args : Array Value} {below : List Frame} {meth : Method} {c : Code} {X : XT} (hinj : XInj X nC) (hZ : ZOK (Zc X)) (C : CX p s m args meth c cX0_refusal 5 RX0 (some .int) X nC (Zc X)) (out : Int × S2) (c0 : Nat) (i0 : Is0 c0) : ∀ (N : Nat), ∀ (x1 : Int) (x2 : Int) (x3 : Int) (S : S2) (H : Heap) (locs : List Loc) (ls : Array Slot), f_X0_refusal_41 c0 N x1 x2 x3 S = some out → WH X shC nC s S H locs → lv_has ls 5 [(0, .ref (X.2.2 c0)), (1, .int (iz x1)), (2, .int (iz x2)), (3, .int (iz x3))] → W p l e rmX0_refusal s m args below meth c H locs 0 0 (QI X shC nC s args below out) (F0 m 41 ls []) := by
  intro N x1 x2 x3 S H locs ls hf hw hl
  unfold f_X0_refusal_41 at hf
  refine lv_aload_n C.1.1 C.1.2.1 dX0_refusal_41 rfl (lv_at hl 0 rfl) ?_
  refine lv_iload_n C.1.1 C.1.2.1 dX0_refusal_42 rfl (lv_at hl 1 rfl) ?_
  refine lv_iload_n C.1.1 C.1.2.1 dX0_refusal_43 rfl (lv_at hl 2 rfl) ?_
  refine lv_iload_n C.1.1 C.1.2.1 dX0_refusal_44 rfl (lv_at hl 3 rfl) ?_
  refine r_callI (As := [.int (iz x1), .int (iz x2), .int (iz x3)]) (rest := []) (rm := rmX0_inBounds) C hw (is0_s i0) (is0_l i0) cO0 tw3_238 tw4_0 tp_26 tw1_4 tw4_1 hd_X0_inBounds rfl ⟨⟨rfl, rfl⟩, Nat.le_of_ble_eq_true rfl, Nat.le_of_ble_eq_true rfl⟩ hl.1 rfl (Nat.le_of_ble_eq_true rfl) dX0_refusal_45 hf (fun o ho => c_X0_inBounds l X hinj hZ N S c0 x1 x2 x3 i0 o ho) (fun v45 S45 H locs hf hw => ?_)
  refine r_if_eq C (tgt := 55) dX0_refusal_48 (by decide) hf (fun hf => ?_) (fun hf => ?_)
  · refine r_iconst (v := 1) C dX0_refusal_55 ?_
    exact r_retI C hw dX0_refusal_56 hf
  · refine r_iconst (v := (-1)) C dX0_refusal_51 ?_
    refine lv_goto (tgt := 56) C.1.1 C.1.2.1 dX0_refusal_52 (by decide) ?_
    exact r_retI C hw dX0_refusal_56 hf
set_option maxRecDepth 100000 in
set_option maxHeartbeats 4000000 in
theorem w_X0_refusal_17 {p : Program} (l : Launch) {e : Env} {s : State} {m : MethodId} {args : Array Value} {below : List Frame} {meth : Method} {c : Code} {X : XT} (hinj : XInj X nC) (hZ : ZOK (Zc X)) (C : CX p s m args meth c cX0_refusal 5 RX0 (some .int) X nC (Zc X)) (out : Int × S2) (c0 : Nat) (i0 : Is0 c0) : ∀ (N : Nat), ∀ (x1 : Int) (x2 : Int) (x3 : Int) (y0 : Int) (S : S2) (H : Heap) (locs : List Loc) (ls : Array Slot), f_X0_refusal_17 c0 N x1 x2 x3 y0 S = some out → WH X shC nC s S H locs → lv_has ls 5 [(0, .ref (X.2.2 c0)), (1, .int (iz x1)), (2, .int (iz x2)), (3, .int (iz x3))] → W p l e rmX0_refusal s m args below meth c H locs 0 0 (QI X shC nC s args below out) (F0 m 17 ls [.int (iz y0)]) := by
  intro N x1 x2 x3 y0 S H locs ls hf hw hl
  unfold f_X0_refusal_17 at hf
  refine lv_istore (lv' := [(4, .int (iz y0)), (0, .ref (X.2.2 c0)), (1, .int (iz x1)), (2, .int (iz x2)), (3, .int (iz x3))]) C.1.1 C.1.2.1 dX0_refusal_17 hl (by decide) rfl (fun ls hl => ?_)
  refine lv_aload_n C.1.1 C.1.2.1 dX0_refusal_19 rfl (lv_at hl 1 rfl) ?_
  refine r_getI (k := 1) C hw (is0_s i0) (is0_l i0) cO0 rfl (by decide) tw1_89 rfl dX0_refusal_20 hf (fun v20 hf => ?_)
  refine r_if_eq C (tgt := 39) dX0_refusal_23 (by decide) hf (fun hf => ?_) (fun hf => ?_)
  · refine r_iconst (v := 0) C dX0_refusal_39 ?_
    exact r_retI C hw dX0_refusal_40 hf
  · refine lv_iload C.1.1 C.1.2.1 dX0_refusal_26 (lv_at hl 0 rfl) ?_
    refine r_if_eq C (tgt := 41) dX0_refusal_28 (by decide) hf (fun hf => ?_) (fun hf => ?_)
    · exact (w_X0_refusal_41 l hinj hZ C out c0 i0 N) x1 x2 x3 S H locs ls hf hw (lv_sub hl [1, 2, 3, 4] rfl)
    · refine lv_aload_n C.1.1 C.1.2.1 dX0_refusal_31 rfl (lv_at hl 1 rfl) ?_
      refine lv_iload_n C.1.1 C.1.2.1 dX0_refusal_32 rfl (lv_at hl 3 rfl) ?_
      refine r_callI (As := [.int (iz x2)]) (rest := []) (rm := rmX0_has) C hw (is0_s i0) (is0_l i0) cO0 tw3_174 tw3_151 tw3_152 tw1_4 tw3_153 hd_X0_has rfl ⟨⟨rfl, rfl⟩, Nat.le_of_ble_eq_true rfl, Nat.le_of_ble_eq_true rfl⟩ hl.1 rfl (Nat.le_of_ble_eq_true rfl) dX0_refusal_33 hf (fun o ho => c_X0_has l X hinj hZ N S c0 x2 i0 o ho) (fun v33 S33 H locs hf hw => ?_)
      refine r_if_ne C (tgt := 41) dX0_refusal_36 (by decide) hf (fun hf => ?_) (fun hf => ?_)
      · exact (w_X0_refusal_41 l hinj hZ C out c0 i0 N) x1 x2 x3 S33 H locs ls hf hw (lv_sub hl [1, 2, 3, 4] rfl)
      · refine r_iconst (v := 0) C dX0_refusal_39 ?_
        exact r_retI C hw dX0_refusal_40 hf
set_option maxRecDepth 100000 in
set_option maxHeartbeats 4000000 in
theorem w_X0_refusal_12 {p : Program} (l : Launch) {e : Env} {s : State} {m : MethodId} {args : Array Value} {below : List Frame} {meth : Method} {c : Code} {X : XT} (hinj : XInj X nC) (hZ : ZOK (Zc X)) (C : CX p s m args meth c cX0_refusal 5 RX0 (some .int) X nC (Zc X)) (out : Int × S2) (c0 : Nat) (i0 : Is0 c0) : ∀ (N : Nat), ∀ (x1 : Int) (x2 : Int) (x3 : Int) (S : S2) (H : Heap) (locs : List Loc) (ls : Array Slot), f_X0_refusal_12 c0 N x1 x2 x3 S = some out → WH X shC nC s S H locs → lv_has ls 5 [(0, .ref (X.2.2 c0)), (1, .int (iz x1)), (2, .int (iz x2)), (3, .int (iz x3))] → W p l e rmX0_refusal s m args below meth c H locs 0 0 (QI X shC nC s args below out) (F0 m 12 ls []) := by
  intro N x1 x2 x3 S H locs ls hf hw hl
  unfold f_X0_refusal_12 at hf
  refine r_iconst (v := 1) C dX0_refusal_12 ?_
  refine lv_goto (tgt := 17) C.1.1 C.1.2.1 dX0_refusal_13 (by decide) ?_
  exact (w_X0_refusal_17 l hinj hZ C out c0 i0 N) x1 x2 x3 1 S H locs ls hf hw (lv_sub hl [0, 1, 2, 3] rfl)
set_option maxRecDepth 100000 in
set_option maxHeartbeats 4000000 in
theorem c_X0_refusal (l : Launch) (X : XT) (hinj : XInj X nC) (hZ : ZOK (Zc X)) (N : Nat) (S : S2) (c0 : Nat) (a1 : Int) (a2 : Int) (a3 : Int) (i0 : Is0 c0) (out : Int × S2) (hf : f_X0_refusal N S c0 a1 a2 a3 = some out) : MI l X shC nC (Zc X) yX0_refusal cX0_refusal 5 (some .int) rmX0_refusal [.ref (X.2.2 c0), .int (iz a1), .int (iz a2), .int (iz a3)] S out := by
  refine met_I (own := RX0) (by decide) rfl hinj hZ (Nat.le_of_ble_eq_true rfl) (fun p e s m args below meth c C ls H locs hw hl => ?_)
  unfold f_X0_refusal at hf
  have hl : lv_has ls 5 [(0, .ref (X.2.2 c0)), (1, .int (iz a1)), (2, .int (iz a2)), (3, .int (iz a3))] := hl
  refine lv_iload_n C.1.1 C.1.2.1 dX0_refusal_0 rfl (lv_at hl 1 rfl) ?_
  refine r_bipush (v := 7) C dX0_refusal_1 (by decide) ?_
  refine r_icmp_eq C (tgt := 12) dX0_refusal_3 (by decide) hf (fun hf => ?_) (fun hf => ?_)
  · exact (w_X0_refusal_12 l hinj hZ C out c0 i0 N) a1 a2 a3 S H locs ls hf hw (lv_sub hl [0, 1, 2, 3] rfl)
  · refine lv_iload_n C.1.1 C.1.2.1 dX0_refusal_6 rfl (lv_at hl 1 rfl) ?_
    refine r_bipush (v := 9) C dX0_refusal_7 (by decide) ?_
    refine r_icmp_ne C (tgt := 16) dX0_refusal_9 (by decide) hf (fun hf => ?_) (fun hf => ?_)
    · refine r_iconst (v := 0) C dX0_refusal_16 ?_
      exact (w_X0_refusal_17 l hinj hZ C out c0 i0 N) a1 a2 a3 0 S H locs ls hf hw (lv_sub hl [0, 1, 2, 3] rfl)
    · exact (w_X0_refusal_12 l hinj hZ C out c0 i0 N) a1 a2 a3 S H locs ls hf hw (lv_sub hl [0, 1, 2, 3] rfl)
def f_X0_blend_102 (c0 : Nat) (N : Nat) (S : S2) : Option (Int × S2) := gI S c0 1 fun v103 => rI v103 S
def f_X0_blend_92 (c0 : Nat) (k20 : Int → Int → Int → S2 → Option (Int × S2)) (N : Nat) (x1 : Int) (x3 : Int) (x4 : Int) (y0 : Int) (y1 : Int) (S : S2) : Option (Int × S2) := sI S (c0 + 1) 48 y1 y0 fun S92 => k20 x1 x4 (x3 + 1) S92
def f_X0_blend_59 (c0 : Nat) (k20 : Int → Int → Int → S2 → Option (Int × S2)) (N : Nat) (x1 : Int) (x2 : Int) (x3 : Int) (x4 : Int) (y0 : Int) (S : S2) : Option (Int × S2) := cI x1 0 (if x1 = 0 then dvI ((x2 + (2 * x4)) + y0) 4 fun v91 => (f_X0_blend_92 c0 k20 N) x1 x3 x4 v91 x3 S else bI (f_X0_middle N S x2 x4 y0) fun v75 S75 => (f_X0_blend_92 c0 k20 N) x1 x3 x4 v75 x3 S75)
def f_X0_blend_20 (c0 : Nat) (k102 : S2 → Option (Int × S2)) : Nat → Int → Int → Int → S2 → Option (Int × S2)
  | 0, _, _, _, _ => none
  | N + 1, x1, x2, x3, S => gI S c0 1 fun v22 => cI x3 v22 (if v22 ≤ x3 then k102 S else aI S (c0 + 1) 48 x3 fun v33 => bI (f_X0_has N S c0 (x3 + 1)) fun v40 S40 => cI v40 0 (if v40 = 0 then (f_X0_blend_59 c0 (f_X0_blend_20 c0 k102 N) N) x1 x2 x3 v33 v33 S40 else aI S40 (c0 + 1) 48 (x3 + 1) fun v53 => (f_X0_blend_59 c0 (f_X0_blend_20 c0 k102 N) N) x1 x2 x3 v33 v53 S40))
def f_X0_blend_17 (c0 : Nat) (N : Nat) (x1 : Int) (y0 : Int) (S : S2) : Option (Int × S2) := (f_X0_blend_20 c0 (f_X0_blend_102 c0 N) N) x1 y0 0 S
def f_X0_blend (N : Nat) (S : S2) (c0 : Nat) (a1 : Int) : Option (Int × S2) := gI S c0 1 fun v1 => cI v1 0 (if v1 ≤ 0 then (f_X0_blend_17 c0 N) a1 0 S else aI S (c0 + 1) 48 0 fun v12 => (f_X0_blend_17 c0 N) a1 v12 S)
abbrev rmX0_blend : Room := { frames := 2, cells := 0, slots := 0, locals := 45 }
theorem hd_X0_blend : yX0_blend.cls ≠ "java/lang/invoke/MethodHandle" ∧ yX0_blend.cls ≠ "java/lang/invoke/VarHandle" ∧ (parseMethodDescriptor yX0_blend.desc).map (fun d => d.parameters.length) = some 1 := by decide +kernel
set_option maxRecDepth 100000 in
set_option maxHeartbeats 4000000 in
theorem w_X0_blend_102 {p : Program} (l : Launch) {e : Env} {s : State} {m : MethodId} {args : Array Value} {below : List Frame} {meth : Method} {c : Code} {X : XT} (hinj : XInj X nC) (hZ : ZOK (Zc X)) (C : CX p s m args meth c cX0_blend 6 RX0 (some .int) X nC (Zc X)) (out : Int × S2) (c0 : Nat) (i0 : Is0 c0) : ∀ (N : Nat), ∀ (S : S2) (H : Heap) (locs : List Loc) (ls : Array Slot), f_X0_blend_102 c0 N S = some out → WH X shC nC s S H locs → lv_has ls 6 [(0, .ref (X.2.2 c0))] → W p l e rmX0_blend s m args below meth c H locs 0 0 (QI X shC nC s args below out) (F0 m 102 ls []) := by
  intro N S H locs ls hf hw hl
  unfold f_X0_blend_102 at hf
  refine lv_aload_n C.1.1 C.1.2.1 dX0_blend_102 rfl (lv_at hl 0 rfl) ?_
  refine r_getI (k := 1) C hw (is0_s i0) (is0_l i0) cO0 rfl (by decide) tw1_89 rfl dX0_blend_103 hf (fun v103 hf => ?_)
  exact r_retI C hw dX0_blend_106 hf
set_option maxRecDepth 100000 in
set_option maxHeartbeats 4000000 in
theorem w_X0_blend_92 {p : Program} (l : Launch) {e : Env} {s : State} {m : MethodId} {args : Array Value} {below : List Frame} {meth : Method} {c : Code} {X : XT} (hinj : XInj X nC) (hZ : ZOK (Zc X)) (C : CX p s m args meth c cX0_blend 6 RX0 (some .int) X nC (Zc X)) (out : Int × S2) (c0 : Nat) (i0 : Is0 c0) (k20 : Int → Int → Int → S2 → Option (Int × S2)) (hk20 : ∀ (x1 : Int) (x2 : Int) (x3 : Int) (S : S2) (H : Heap) (locs : List Loc) (ls : Array Slot), k20 x1 x2 x3 S = some out → WH X shC nC s S H locs → lv_has ls 6 [(0, .ref (X.2.2 c0)), (1, .int (iz x1)), (2, .int (iz x2)), (3, .int (iz x3))] → W p l e rmX0_blend s m args below meth c H locs 0 0 (QI X shC nC s args below out) (F0 m 20 ls [])) : ∀ (N : Nat), ∀ (x1 : Int) (x3 : Int) (x4 : Int) (y0 : Int) (y1 : Int) (S : S2) (H : Heap) (locs : List Loc) (ls : Array Slot), f_X0_blend_92 c0 k20 N x1 x3 x4 y0 y1 S = some out → WH X shC nC s S H locs → lv_has ls 6 [(0, .ref (X.2.2 c0)), (1, .int (iz x1)), (3, .int (iz x3)), (4, .int (iz x4))] → W p l e rmX0_blend s m args below meth c H locs 0 0 (QI X shC nC s args below out) (F0 m 92 ls [.int (iz y0), .int (iz y1), .ref (X.2.2 (c0 + 1))]) := by
  intro N x1 x3 x4 y0 y1 S H locs ls hf hw hl
  unfold f_X0_blend_92 at hf
  refine r_iast C hw (is0_s1 i0) (is0_l1 i0) (Nat.le_of_ble_eq_true rfl) dX0_blend_92 hf (fun S92 H locs hf hw => ?_)
  refine lv_iload C.1.1 C.1.2.1 dX0_blend_93 (lv_at hl 3 rfl) ?_
  refine lv_istore_n (lv' := [(2, .int (iz x4)), (0, .ref (X.2.2 c0)), (1, .int (iz x1)), (3, .int (iz x3)), (4, .int (iz x4))]) C.1.1 C.1.2.1 dX0_blend_95 rfl hl (by decide) rfl (fun ls hl => ?_)
  refine lv_iinc (v := iz (x3 + 1)) (lv' := [(3, .int (iz (x3 + 1))), (2, .int (iz x4)), (0, .ref (X.2.2 c0)), (1, .int (iz x1)), (4, .int (iz x4))]) C.1.1 C.1.2.1 dX0_blend_96 hl (k := 3) rfl (iz_add _ _) (by decide) rfl (fun ls hl => ?_)
  refine lv_goto (tgt := 20) C.1.1 C.1.2.1 dX0_blend_99 (by decide) ?_
  exact hk20 x1 x4 (x3 + 1) S92 H locs ls hf hw (lv_sub hl [2, 3, 1, 0] rfl)
set_option maxRecDepth 100000 in
set_option maxHeartbeats 4000000 in
theorem w_X0_blend_59 {p : Program} (l : Launch) {e : Env} {s : State} {m : MethodId} {args : Array Value} {below : List Frame} {meth : Method} {c : Code} {X : XT} (hinj : XInj X nC) (hZ : ZOK (Zc X)) (C : CX p s m args meth c cX0_blend 6 RX0 (some .int) X nC (Zc X)) (out : Int × S2) (c0 : Nat) (i0 : Is0 c0) (k20 : Int → Int → Int → S2 → Option (Int × S2)) (hk20 : ∀ (x1 : Int) (x2 : Int) (x3 : Int) (S : S2) (H : Heap) (locs : List Loc) (ls : Array Slot), k20 x1 x2 x3 S = some out → WH X shC nC s S H locs → lv_has ls 6 [(0, .ref (X.2.2 c0)), (1, .int (iz x1)), (2, .int (iz x2)), (3, .int (iz x3))] → W p l e rmX0_blend s m args below meth c H locs 0 0 (QI X shC nC s args below out) (F0 m 20 ls [])) : ∀ (N : Nat), ∀ (x1 : Int) (x2 : Int) (x3 : Int) (x4 : Int) (y0 : Int) (S : S2) (H : Heap) (locs : List Loc) (ls : Array Slot), f_X0_blend_59 c0 k20 N x1 x2 x3 x4 y0 S = some out → WH X shC nC s S H locs → lv_has ls 6 [(0, .ref (X.2.2 c0)), (1, .int (iz x1)), (2, .int (iz x2)), (3, .int (iz x3)), (4, .int (iz x4))] → W p l e rmX0_blend s m args below meth c H locs 0 0 (QI X shC nC s args below out) (F0 m 59 ls [.int (iz y0)]) := by
  intro N x1 x2 x3 x4 y0 S H locs ls hf hw hl
  unfold f_X0_blend_59 at hf
  refine lv_istore (lv' := [(5, .int (iz y0)), (0, .ref (X.2.2 c0)), (1, .int (iz x1)), (2, .int (iz x2)), (3, .int (iz x3)), (4, .int (iz x4))]) C.1.1 C.1.2.1 dX0_blend_59 hl (by decide) rfl (fun ls hl => ?_)
  refine lv_aload_n C.1.1 C.1.2.1 dX0_blend_61 rfl (lv_at hl 1 rfl) ?_
  refine r_getR (k := 0) C hw (is0_s i0) (is0_l i0) cO0 rfl (by decide) tw1_85 rfl dX0_blend_62 ?_
  refine lv_iload_n C.1.1 C.1.2.1 dX0_blend_65 rfl (lv_at hl 4 rfl) ?_
  refine lv_iload_n C.1.1 C.1.2.1 dX0_blend_66 rfl (lv_at hl 2 rfl) ?_
  refine r_if_eq C (tgt := 81) dX0_blend_67 (by decide) hf (fun hf => ?_) (fun hf => ?_)
  · refine lv_iload_n C.1.1 C.1.2.1 dX0_blend_81 rfl (lv_at hl 3 rfl) ?_
    refine r_iconst (v := 2) C dX0_blend_82 ?_
    refine lv_iload C.1.1 C.1.2.1 dX0_blend_83 (lv_at hl 5 rfl) ?_
    refine r_imul C dX0_blend_85 ?_
    refine r_iadd C dX0_blend_86 ?_
    refine lv_iload C.1.1 C.1.2.1 dX0_blend_87 (lv_at hl 0 rfl) ?_
    refine r_iadd C dX0_blend_89 ?_
    refine r_iconst (v := 4) C dX0_blend_90 ?_
    refine r_idiv C dX0_blend_91 hf (fun v91 hf => ?_)
    exact (w_X0_blend_92 l hinj hZ C out c0 i0 k20 hk20 N) x1 x3 x4 v91 x3 S H locs ls hf hw (lv_sub hl [1, 2, 4, 5] rfl)
  · refine lv_iload_n C.1.1 C.1.2.1 dX0_blend_70 rfl (lv_at hl 3 rfl) ?_
    refine lv_iload C.1.1 C.1.2.1 dX0_blend_71 (lv_at hl 5 rfl) ?_
    refine lv_iload C.1.1 C.1.2.1 dX0_blend_73 (lv_at hl 0 rfl) ?_
    refine r_scallI (As := [.int (iz x2), .int (iz x4), .int (iz y0)]) (rest := [.int (iz x3), .ref (X.2.2 (c0 + 1))]) (rm := rmX0_middle) C hw tw4_20 tw4_21 tw1_4 tw4_22 hd_X0_middle rfl ⟨⟨rfl, rfl⟩, Nat.le_of_ble_eq_true rfl, Nat.le_of_ble_eq_true rfl⟩ hl.1 rfl (Nat.le_of_ble_eq_true rfl) dX0_blend_75 hf (fun o ho => c_X0_middle l X hinj hZ N S x2 x4 y0 o ho) (fun v75 S75 H locs hf hw => ?_)
    refine lv_goto (tgt := 92) C.1.1 C.1.2.1 dX0_blend_78 (by decide) ?_
    exact (w_X0_blend_92 l hinj hZ C out c0 i0 k20 hk20 N) x1 x3 x4 v75 x3 S75 H locs ls hf hw (lv_sub hl [1, 2, 4, 5] rfl)
set_option maxRecDepth 100000 in
set_option maxHeartbeats 4000000 in
theorem w_X0_blend_20 {p : Program} (l : Launch) {e : Env} {s : State} {m : MethodId} {args : Array Value} {below : List Frame} {meth : Method} {c : Code} {X : XT} (hinj : XInj X nC) (hZ : ZOK (Zc X)) (C : CX p s m args meth c cX0_blend 6 RX0 (some .int) X nC (Zc X)) (out : Int × S2) (c0 : Nat) (i0 : Is0 c0) (k102 : S2 → Option (Int × S2)) (hk102 : ∀ (S : S2) (H : Heap) (locs : List Loc) (ls : Array Slot), k102 S = some out → WH X shC nC s S H locs → lv_has ls 6 [(0, .ref (X.2.2 c0))] → W p l e rmX0_blend s m args below meth c H locs 0 0 (QI X shC nC s args below out) (F0 m 102 ls [])) : ∀ (N : Nat), ∀ (x1 : Int) (x2 : Int) (x3 : Int) (S : S2) (H : Heap) (locs : List Loc) (ls : Array Slot), f_X0_blend_20 c0 k102 N x1 x2 x3 S = some out → WH X shC nC s S H locs → lv_has ls 6 [(0, .ref (X.2.2 c0)), (1, .int (iz x1)), (2, .int (iz x2)), (3, .int (iz x3))] → W p l e rmX0_blend s m args below meth c H locs 0 0 (QI X shC nC s args below out) (F0 m 20 ls []) := by
  intro N
  induction N with
  | zero => intro x1 x2 x3 S H locs ls hf hw hl; cases hf
  | succ N ih =>
    intro x1 x2 x3 S H locs ls hf hw hl
    rw [f_X0_blend_20.eq_2] at hf
    refine lv_iload_n C.1.1 C.1.2.1 dX0_blend_20 rfl (lv_at hl 3 rfl) ?_
    refine lv_aload_n C.1.1 C.1.2.1 dX0_blend_21 rfl (lv_at hl 0 rfl) ?_
    refine r_getI (k := 1) C hw (is0_s i0) (is0_l i0) cO0 rfl (by decide) tw1_89 rfl dX0_blend_22 hf (fun v22 hf => ?_)
    refine r_icmp_ge C (tgt := 102) dX0_blend_25 (by decide) hf (fun hf => ?_) (fun hf => ?_)
    · exact hk102 S H locs ls hf hw (lv_sub hl [0] rfl)
    · refine lv_aload_n C.1.1 C.1.2.1 dX0_blend_28 rfl (lv_at hl 0 rfl) ?_
      refine r_getR (k := 0) C hw (is0_s i0) (is0_l i0) cO0 rfl (by decide) tw1_85 rfl dX0_blend_29 ?_
      refine lv_iload_n C.1.1 C.1.2.1 dX0_blend_32 rfl (lv_at hl 3 rfl) ?_
      refine r_iald C hw (is0_s1 i0) (is0_l1 i0) (Nat.le_of_ble_eq_true rfl) dX0_blend_33 hf (fun v33 hf => ?_)
      refine lv_istore (lv' := [(4, .int (iz v33)), (0, .ref (X.2.2 c0)), (1, .int (iz x1)), (2, .int (iz x2)), (3, .int (iz x3))]) C.1.1 C.1.2.1 dX0_blend_34 hl (by decide) rfl (fun ls hl => ?_)
      refine lv_aload_n C.1.1 C.1.2.1 dX0_blend_36 rfl (lv_at hl 1 rfl) ?_
      refine lv_iload_n C.1.1 C.1.2.1 dX0_blend_37 rfl (lv_at hl 4 rfl) ?_
      refine r_iconst (v := 1) C dX0_blend_38 ?_
      refine r_iadd C dX0_blend_39 ?_
      refine r_callI (As := [.int (iz (x3 + 1))]) (rest := []) (rm := rmX0_has) C hw (is0_s i0) (is0_l i0) cO0 tw3_174 tw3_151 tw3_152 tw1_4 tw3_153 hd_X0_has rfl ⟨⟨rfl, rfl⟩, Nat.le_of_ble_eq_true rfl, Nat.le_of_ble_eq_true rfl⟩ hl.1 rfl (Nat.le_of_ble_eq_true rfl) dX0_blend_40 hf (fun o ho => c_X0_has l X hinj hZ N S c0 (x3 + 1) i0 o ho) (fun v40 S40 H locs hf hw => ?_)
      refine r_if_eq C (tgt := 57) dX0_blend_43 (by decide) hf (fun hf => ?_) (fun hf => ?_)
      · refine lv_iload C.1.1 C.1.2.1 dX0_blend_57 (lv_at hl 0 rfl) ?_
        exact (w_X0_blend_59 l hinj hZ C out c0 i0 (f_X0_blend_20 c0 k102 N) ih N) x1 x2 x3 v33 v33 S40 H locs ls hf hw (lv_sub hl [1, 2, 3, 4, 0] rfl)
      · refine lv_aload_n C.1.1 C.1.2.1 dX0_blend_46 rfl (lv_at hl 1 rfl) ?_
        refine r_getR (k := 0) C hw (is0_s i0) (is0_l i0) cO0 rfl (by decide) tw1_85 rfl dX0_blend_47 ?_
        refine lv_iload_n C.1.1 C.1.2.1 dX0_blend_50 rfl (lv_at hl 4 rfl) ?_
        refine r_iconst (v := 1) C dX0_blend_51 ?_
        refine r_iadd C dX0_blend_52 ?_
        refine r_iald C hw (is0_s1 i0) (is0_l1 i0) (Nat.le_of_ble_eq_true rfl) dX0_blend_53 hf (fun v53 hf => ?_)
        refine lv_goto (tgt := 59) C.1.1 C.1.2.1 dX0_blend_54 (by decide) ?_
        exact (w_X0_blend_59 l hinj hZ C out c0 i0 (f_X0_blend_20 c0 k102 N) ih N) x1 x2 x3 v33 v53 S40 H locs ls hf hw (lv_sub hl [1, 2, 3, 4, 0] rfl)
set_option maxRecDepth 100000 in
set_option maxHeartbeats 4000000 in
theorem w_X0_blend_17 {p : Program} (l : Launch) {e : Env} {s : State} {m : MethodId} {args : Array Value} {below : List Frame} {meth : Method} {c : Code} {X : XT} (hinj : XInj X nC) (hZ : ZOK (Zc X)) (C : CX p s m args meth c cX0_blend 6 RX0 (some .int) X nC (Zc X)) (out : Int × S2) (c0 : Nat) (i0 : Is0 c0) : ∀ (N : Nat), ∀ (x1 : Int) (y0 : Int) (S : S2) (H : Heap) (locs : List Loc) (ls : Array Slot), f_X0_blend_17 c0 N x1 y0 S = some out → WH X shC nC s S H locs → lv_has ls 6 [(0, .ref (X.2.2 c0)), (1, .int (iz x1))] → W p l e rmX0_blend s m args below meth c H locs 0 0 (QI X shC nC s args below out) (F0 m 17 ls [.int (iz y0)]) := by
  intro N x1 y0 S H locs ls hf hw hl
  unfold f_X0_blend_17 at hf
  refine lv_istore_n (lv' := [(2, .int (iz y0)), (0, .ref (X.2.2 c0)), (1, .int (iz x1))]) C.1.1 C.1.2.1 dX0_blend_17 rfl hl (by decide) rfl (fun ls hl => ?_)
  refine r_iconst (v := 0) C dX0_blend_18 ?_
  refine lv_istore_n (lv' := [(3, .int (iz 0)), (2, .int (iz y0)), (0, .ref (X.2.2 c0)), (1, .int (iz x1))]) C.1.1 C.1.2.1 dX0_blend_19 rfl hl (by decide) rfl (fun ls hl => ?_)
  exact (w_X0_blend_20 l hinj hZ C out c0 i0 (f_X0_blend_102 c0 N) (w_X0_blend_102 l hinj hZ C out c0 i0 N) N) x1 y0 0 S H locs ls hf hw (lv_sub hl [2, 3, 1, 0] rfl)
set_option maxRecDepth 100000 in
set_option maxHeartbeats 4000000 in
theorem c_X0_blend (l : Launch) (X : XT) (hinj : XInj X nC) (hZ : ZOK (Zc X)) (N : Nat) (S : S2) (c0 : Nat) (a1 : Int) (i0 : Is0 c0) (out : Int × S2) (hf : f_X0_blend N S c0 a1 = some out) : MI l X shC nC (Zc X) yX0_blend cX0_blend 6 (some .int) rmX0_blend [.ref (X.2.2 c0), .int (iz a1)] S out := by
  refine met_I (own := RX0) (by decide) rfl hinj hZ (Nat.le_of_ble_eq_true rfl) (fun p e s m args below meth c C ls H locs hw hl => ?_)
  unfold f_X0_blend at hf
  have hl : lv_has ls 6 [(0, .ref (X.2.2 c0)), (1, .int (iz a1))] := hl
  refine lv_aload_n C.1.1 C.1.2.1 dX0_blend_0 rfl (lv_at hl 0 rfl) ?_
  refine r_getI (k := 1) C hw (is0_s i0) (is0_l i0) cO0 rfl (by decide) tw1_89 rfl dX0_blend_1 hf (fun v1 hf => ?_)
  refine r_if_le C (tgt := 16) dX0_blend_4 (by decide) hf (fun hf => ?_) (fun hf => ?_)
  · refine r_iconst (v := 0) C dX0_blend_16 ?_
    exact (w_X0_blend_17 l hinj hZ C out c0 i0 N) a1 0 S H locs ls hf hw (lv_sub hl [0, 1] rfl)
  · refine lv_aload_n C.1.1 C.1.2.1 dX0_blend_7 rfl (lv_at hl 0 rfl) ?_
    refine r_getR (k := 0) C hw (is0_s i0) (is0_l i0) cO0 rfl (by decide) tw1_85 rfl dX0_blend_8 ?_
    refine r_iconst (v := 0) C dX0_blend_11 ?_
    refine r_iald C hw (is0_s1 i0) (is0_l1 i0) (Nat.le_of_ble_eq_true rfl) dX0_blend_12 hf (fun v12 hf => ?_)
    refine lv_goto (tgt := 17) C.1.1 C.1.2.1 dX0_blend_13 (by decide) ?_
    exact (w_X0_blend_17 l hinj hZ C out c0 i0 N) a1 v12 S H locs ls hf hw (lv_sub hl [0, 1] rfl)
def f_X0_flatten_48 (c0 : Nat) (c1 : Nat) (k11 : Int → Int → S2 → Option (Int × S2)) (N : Nat) (x3 : Int) (x4 : Int) (S : S2) : Option (Int × S2) := k11 x3 (x4 + 1) S
def f_X0_flatten_11 (c0 : Nat) (c1 : Nat) : Nat → Int → Int → S2 → Option (Int × S2)
  | 0, _, _, _ => none
  | N + 1, x3, x4, S => gI S c0 1 fun v14 => cI x4 v14 (if v14 ≤ x4 then rI x3 S else aI S (c1 + 13) 48 x4 fun v23 => aI S (c0 + 1) 48 x4 fun v30 => cI v23 v30 (if v30 ≤ v23 then (f_X0_flatten_48 c0 c1 (f_X0_flatten_11 c0 c1 N) N) x3 x4 S else aI S (c1 + 13) 48 x4 fun v43 => sI S (c0 + 1) 48 x4 v43 fun S44 => (f_X0_flatten_48 c0 c1 (f_X0_flatten_11 c0 c1 N) N) (x3 + 1) x4 S44))
def f_X0_flatten (N : Nat) (S : S2) (c0 : Nat) (c1 : Nat) : Option (Int × S2) := bV (f_X5_flatLevels N S c1 c0) fun S2 => (f_X0_flatten_11 c0 c1 N) 0 0 S2
abbrev rmX0_flatten : Room := { frames := 2, cells := 0, slots := 0, locals := 52 }
theorem hd_X0_flatten : yX0_flatten.cls ≠ "java/lang/invoke/MethodHandle" ∧ yX0_flatten.cls ≠ "java/lang/invoke/VarHandle" ∧ (parseMethodDescriptor yX0_flatten.desc).map (fun d => d.parameters.length) = some 1 := by decide +kernel
set_option maxRecDepth 100000 in
set_option maxHeartbeats 4000000 in
theorem w_X0_flatten_48 {p : Program} (l : Launch) {e : Env} {s : State} {m : MethodId} {args : Array Value} {below : List Frame} {meth : Method} {c : Code} {X : XT} (hinj : XInj X nC) (hZ : ZOK (Zc X)) (C : CX p s m args meth c cX0_flatten 5 RX0 (some .int) X nC (Zc X)) (out : Int × S2) (c0 : Nat) (c1 : Nat) (i0 : Is0 c0) (i1 : Is5 c1) (k11 : Int → Int → S2 → Option (Int × S2)) (hk11 : ∀ (x3 : Int) (x4 : Int) (S : S2) (H : Heap) (locs : List Loc) (ls : Array Slot), k11 x3 x4 S = some out → WH X shC nC s S H locs → lv_has ls 5 [(0, .ref (X.2.2 c0)), (2, .ref (X.2.2 (c1 + 13))), (3, .int (iz x3)), (4, .int (iz x4))] → W p l e rmX0_flatten s m args below meth c H locs 0 0 (QI X shC nC s args below out) (F0 m 11 ls [])) : ∀ (N : Nat), ∀ (x3 : Int) (x4 : Int) (S : S2) (H : Heap) (locs : List Loc) (ls : Array Slot), f_X0_flatten_48 c0 c1 k11 N x3 x4 S = some out → WH X shC nC s S H locs → lv_has ls 5 [(0, .ref (X.2.2 c0)), (2, .ref (X.2.2 (c1 + 13))), (3, .int (iz x3)), (4, .int (iz x4))] → W p l e rmX0_flatten s m args below meth c H locs 0 0 (QI X shC nC s args below out) (F0 m 48 ls []) := by
  intro N x3 x4 S H locs ls hf hw hl
  unfold f_X0_flatten_48 at hf
  refine lv_iinc (v := iz (x4 + 1)) (lv' := [(4, .int (iz (x4 + 1))), (0, .ref (X.2.2 c0)), (2, .ref (X.2.2 (c1 + 13))), (3, .int (iz x3))]) C.1.1 C.1.2.1 dX0_flatten_48 hl (k := 3) rfl (iz_add _ _) (by decide) rfl (fun ls hl => ?_)
  refine lv_goto (tgt := 11) C.1.1 C.1.2.1 dX0_flatten_51 (by decide) ?_
  exact hk11 x3 (x4 + 1) S H locs ls hf hw (lv_sub hl [1, 2, 3, 0] rfl)
set_option maxRecDepth 100000 in
set_option maxHeartbeats 4000000 in
theorem w_X0_flatten_11 {p : Program} (l : Launch) {e : Env} {s : State} {m : MethodId} {args : Array Value} {below : List Frame} {meth : Method} {c : Code} {X : XT} (hinj : XInj X nC) (hZ : ZOK (Zc X)) (C : CX p s m args meth c cX0_flatten 5 RX0 (some .int) X nC (Zc X)) (out : Int × S2) (c0 : Nat) (c1 : Nat) (i0 : Is0 c0) (i1 : Is5 c1) : ∀ (N : Nat), ∀ (x3 : Int) (x4 : Int) (S : S2) (H : Heap) (locs : List Loc) (ls : Array Slot), f_X0_flatten_11 c0 c1 N x3 x4 S = some out → WH X shC nC s S H locs → lv_has ls 5 [(0, .ref (X.2.2 c0)), (2, .ref (X.2.2 (c1 + 13))), (3, .int (iz x3)), (4, .int (iz x4))] → W p l e rmX0_flatten s m args below meth c H locs 0 0 (QI X shC nC s args below out) (F0 m 11 ls []) := by
  intro N
  induction N with
  | zero => intro x3 x4 S H locs ls hf hw hl; cases hf
  | succ N ih =>
    intro x3 x4 S H locs ls hf hw hl
    rw [f_X0_flatten_11.eq_2] at hf
    refine lv_iload C.1.1 C.1.2.1 dX0_flatten_11 (lv_at hl 3 rfl) ?_
    refine lv_aload_n C.1.1 C.1.2.1 dX0_flatten_13 rfl (lv_at hl 0 rfl) ?_
    refine r_getI (k := 1) C hw (is0_s i0) (is0_l i0) cO0 rfl (by decide) tw1_89 rfl dX0_flatten_14 hf (fun v14 hf => ?_)
    refine r_icmp_ge C (tgt := 54) dX0_flatten_17 (by decide) hf (fun hf => ?_) (fun hf => ?_)
    · refine lv_iload_n C.1.1 C.1.2.1 dX0_flatten_54 rfl (lv_at hl 2 rfl) ?_
      exact r_retI C hw dX0_flatten_55 hf
    · refine lv_aload_n C.1.1 C.1.2.1 dX0_flatten_20 rfl (lv_at hl 1 rfl) ?_
      refine lv_iload C.1.1 C.1.2.1 dX0_flatten_21 (lv_at hl 3 rfl) ?_
      refine r_iald C hw (is5_s13 i1) (is5_l13 i1) (Nat.le_of_ble_eq_true rfl) dX0_flatten_23 hf (fun v23 hf => ?_)
      refine lv_aload_n C.1.1 C.1.2.1 dX0_flatten_24 rfl (lv_at hl 0 rfl) ?_
      refine r_getR (k := 0) C hw (is0_s i0) (is0_l i0) cO0 rfl (by decide) tw1_85 rfl dX0_flatten_25 ?_
      refine lv_iload C.1.1 C.1.2.1 dX0_flatten_28 (lv_at hl 3 rfl) ?_
      refine r_iald C hw (is0_s1 i0) (is0_l1 i0) (Nat.le_of_ble_eq_true rfl) dX0_flatten_30 hf (fun v30 hf => ?_)
      refine r_icmp_ge C (tgt := 48) dX0_flatten_31 (by decide) hf (fun hf => ?_) (fun hf => ?_)
      · exact (w_X0_flatten_48 l hinj hZ C out c0 c1 i0 i1 (f_X0_flatten_11 c0 c1 N) ih N) x3 x4 S H locs ls hf hw (lv_sub hl [0, 1, 2, 3] rfl)
      · refine lv_aload_n C.1.1 C.1.2.1 dX0_flatten_34 rfl (lv_at hl 0 rfl) ?_
        refine r_getR (k := 0) C hw (is0_s i0) (is0_l i0) cO0 rfl (by decide) tw1_85 rfl dX0_flatten_35 ?_
        refine lv_iload C.1.1 C.1.2.1 dX0_flatten_38 (lv_at hl 3 rfl) ?_
        refine lv_aload_n C.1.1 C.1.2.1 dX0_flatten_40 rfl (lv_at hl 1 rfl) ?_
        refine lv_iload C.1.1 C.1.2.1 dX0_flatten_41 (lv_at hl 3 rfl) ?_
        refine r_iald C hw (is5_s13 i1) (is5_l13 i1) (Nat.le_of_ble_eq_true rfl) dX0_flatten_43 hf (fun v43 hf => ?_)
        refine r_iast C hw (is0_s1 i0) (is0_l1 i0) (Nat.le_of_ble_eq_true rfl) dX0_flatten_44 hf (fun S44 H locs hf hw => ?_)
        refine lv_iinc (v := iz (x3 + 1)) (lv' := [(3, .int (iz (x3 + 1))), (0, .ref (X.2.2 c0)), (2, .ref (X.2.2 (c1 + 13))), (4, .int (iz x4))]) C.1.1 C.1.2.1 dX0_flatten_45 hl (k := 2) rfl (iz_add _ _) (by decide) rfl (fun ls hl => ?_)
        exact (w_X0_flatten_48 l hinj hZ C out c0 c1 i0 i1 (f_X0_flatten_11 c0 c1 N) ih N) (x3 + 1) x4 S44 H locs ls hf hw (lv_sub hl [1, 2, 0, 3] rfl)
set_option maxRecDepth 100000 in
set_option maxHeartbeats 4000000 in
theorem c_X0_flatten (l : Launch) (X : XT) (hinj : XInj X nC) (hZ : ZOK (Zc X)) (N : Nat) (S : S2) (c0 : Nat) (c1 : Nat) (i0 : Is0 c0) (i1 : Is5 c1) (out : Int × S2) (hf : f_X0_flatten N S c0 c1 = some out) : MI l X shC nC (Zc X) yX0_flatten cX0_flatten 5 (some .int) rmX0_flatten [.ref (X.2.2 c0), .ref (X.2.2 c1)] S out := by
  refine met_I (own := RX0) (by decide) rfl hinj hZ (Nat.le_of_ble_eq_true rfl) (fun p e s m args below meth c C ls H locs hw hl => ?_)
  unfold f_X0_flatten at hf
  have hl : lv_has ls 5 [(0, .ref (X.2.2 c0)), (1, .ref (X.2.2 c1))] := hl
  refine lv_aload_n C.1.1 C.1.2.1 dX0_flatten_0 rfl (lv_at hl 1 rfl) ?_
  refine lv_aload_n C.1.1 C.1.2.1 dX0_flatten_1 rfl (lv_at hl 0 rfl) ?_
  refine r_callR (As := [.ref (X.2.2 c0)]) (rest := []) (rm := rmX5_flatLevels) C hw (is5_s i1) (is5_l i1) cO5 tw4_28 tw4_29 tw4_30 tw1_5 tw4_31 hd_X5_flatLevels rfl ⟨⟨rfl, rfl⟩, Nat.le_of_ble_eq_true rfl, Nat.le_of_ble_eq_true rfl⟩ hl.1 rfl (Nat.le_of_ble_eq_true rfl) dX0_flatten_2 hf (fun o ho => c_X5_flatLevels l X hinj hZ N S c1 c0 i1 i0 o ho) (fun S2 H locs hf hw => ?_)
  refine lv_astore_n (lv' := [(2, .ref (X.2.2 (c1 + 13))), (0, .ref (X.2.2 c0)), (1, .ref (X.2.2 c1))]) C.1.1 C.1.2.1 dX0_flatten_5 rfl hl (by decide) rfl (fun ls hl => ?_)
  refine r_iconst (v := 0) C dX0_flatten_6 ?_
  refine lv_istore_n (lv' := [(3, .int (iz 0)), (2, .ref (X.2.2 (c1 + 13))), (0, .ref (X.2.2 c0)), (1, .ref (X.2.2 c1))]) C.1.1 C.1.2.1 dX0_flatten_7 rfl hl (by decide) rfl (fun ls hl => ?_)
  refine r_iconst (v := 0) C dX0_flatten_8 ?_
  refine lv_istore (lv' := [(4, .int (iz 0)), (3, .int (iz 0)), (2, .ref (X.2.2 (c1 + 13))), (0, .ref (X.2.2 c0)), (1, .ref (X.2.2 c1))]) C.1.1 C.1.2.1 dX0_flatten_9 hl (by decide) rfl (fun ls hl => ?_)
  exact (w_X0_flatten_11 l hinj hZ C out c0 c1 i0 i1 N) 0 0 S2 H locs ls hf hw (lv_sub hl [3, 2, 1, 0] rfl)
def f_X3_add_55 (c0 : Nat) (c1 : Nat) (N : Nat) (x3 : Int) (x4 : Int) (S : S2) : Option (S2) := gI S c0 0 fun v60 => sI S (c0 + 2) 8 v60 x3 fun S64 => gI S64 c0 0 fun v70 => sI S64 (c0 + 1) 8 v70 x4 fun S75 => gI S75 c0 0 fun v78 => uI S75 c0 0 (v78 + 1) fun S83 => rV S83
def f_X3_add_13 (c0 : Nat) (c1 : Nat) (k55 : Int → Int → S2 → Option (S2)) : Nat → Int → Int → Int → Int → S2 → Option (S2)
  | 0, _, _, _, _, _ => none
  | N + 1, x2, x3, x4, x5, S => cI x5 x3 (if x3 ≤ x5 then k55 x3 x4 S else cI x5 6 (if 6 ≤ x5 then k55 x3 x4 S else gI S c0 0 fun v31 => bI (f_X9_byteAt N S c1 (x2 + x5)) fun v45 S45 => sC S45 (c0 + 4) 48 ((v31 * 6) + x5) v45 fun S48 => (f_X3_add_13 c0 c1 k55 N) x2 x3 x4 (x5 + 1) S48))
def f_X3_add (N : Nat) (S : S2) (c0 : Nat) (c1 : Nat) (a2 : Int) (a3 : Int) (a4 : Int) : Option (S2) := gI S c0 0 fun v1 => cI v1 8 (if v1 < 8 then (f_X3_add_13 c0 c1 (f_X3_add_55 c0 c1 N) N) a2 a3 a4 0 S else rV S)
abbrev rmX3_add : Room := { frames := 1, cells := 0, slots := 0, locals := 21 }
theorem hd_X3_add : yX3_add.cls ≠ "java/lang/invoke/MethodHandle" ∧ yX3_add.cls ≠ "java/lang/invoke/VarHandle" ∧ (parseMethodDescriptor yX3_add.desc).map (fun d => d.parameters.length) = some 4 := by decide +kernel
set_option maxRecDepth 100000 in
set_option maxHeartbeats 4000000 in
theorem w_X3_add_55 {p : Program} (l : Launch) {e : Env} {s : State} {m : MethodId} {args : Array Value} {below : List Frame} {meth : Method} {c : Code} {X : XT} (hinj : XInj X nC) (hZ : ZOK (Zc X)) (C : CX p s m args meth c cX3_add 6 RX3 none X nC (Zc X)) (out : S2) (c0 : Nat) (c1 : Nat) (i0 : Is3 c0) (i1 : Is9 c1) : ∀ (N : Nat), ∀ (x3 : Int) (x4 : Int) (S : S2) (H : Heap) (locs : List Loc) (ls : Array Slot), f_X3_add_55 c0 c1 N x3 x4 S = some out → WH X shC nC s S H locs → lv_has ls 6 [(0, .ref (X.2.2 c0)), (3, .int (iz x3)), (4, .int (iz x4))] → W p l e rmX3_add s m args below meth c H locs 0 0 (QV X shC nC s args below out) (F0 m 55 ls []) := by
  intro N x3 x4 S H locs ls hf hw hl
  unfold f_X3_add_55 at hf
  refine lv_aload_n C.1.1 C.1.2.1 dX3_add_55 rfl (lv_at hl 0 rfl) ?_
  refine r_getR (k := 3) C hw (is3_s i0) (is3_l i0) cO3 rfl (by decide) tw1_174 rfl dX3_add_56 ?_
  refine lv_aload_n C.1.1 C.1.2.1 dX3_add_59 rfl (lv_at hl 0 rfl) ?_
  refine r_getI (k := 0) C hw (is3_s i0) (is3_l i0) cO3 rfl (by decide) tw1_166 rfl dX3_add_60 hf (fun v60 hf => ?_)
  refine lv_iload_n C.1.1 C.1.2.1 dX3_add_63 rfl (lv_at hl 1 rfl) ?_
  refine r_iast C hw (is3_s2 i0) (is3_l2 i0) (Nat.le_of_ble_eq_true rfl) dX3_add_64 hf (fun S64 H locs hf hw => ?_)
  refine lv_aload_n C.1.1 C.1.2.1 dX3_add_65 rfl (lv_at hl 0 rfl) ?_
  refine r_getR (k := 2) C hw (is3_s i0) (is3_l i0) cO3 rfl (by decide) tw1_172 rfl dX3_add_66 ?_
  refine lv_aload_n C.1.1 C.1.2.1 dX3_add_69 rfl (lv_at hl 0 rfl) ?_
  refine r_getI (k := 0) C hw (is3_s i0) (is3_l i0) cO3 rfl (by decide) tw1_166 rfl dX3_add_70 hf (fun v70 hf => ?_)
  refine lv_iload C.1.1 C.1.2.1 dX3_add_73 (lv_at hl 2 rfl) ?_
  refine r_iast C hw (is3_s1 i0) (is3_l1 i0) (Nat.le_of_ble_eq_true rfl) dX3_add_75 hf (fun S75 H locs hf hw => ?_)
  refine lv_aload_n C.1.1 C.1.2.1 dX3_add_76 rfl (lv_at hl 0 rfl) ?_
  refine lv_dup C.1.1 C.1.2.1 dX3_add_77 rfl ?_
  refine r_getI (k := 0) C hw (is3_s i0) (is3_l i0) cO3 rfl (by decide) tw1_166 rfl dX3_add_78 hf (fun v78 hf => ?_)
  refine r_iconst (v := 1) C dX3_add_81 ?_
  refine r_iadd C dX3_add_82 ?_
  refine r_putI (k := 0) C hw (is3_s i0) (is3_l i0) cO3 rfl (by decide) tw1_166 rfl rfl rfl dX3_add_83 hf (fun S83 H locs hf hw => ?_)
  exact r_retV C hw dX3_add_86 hf
set_option maxRecDepth 100000 in
set_option maxHeartbeats 4000000 in
theorem w_X3_add_13 {p : Program} (l : Launch) {e : Env} {s : State} {m : MethodId} {args : Array Value} {below : List Frame} {meth : Method} {c : Code} {X : XT} (hinj : XInj X nC) (hZ : ZOK (Zc X)) (C : CX p s m args meth c cX3_add 6 RX3 none X nC (Zc X)) (out : S2) (c0 : Nat) (c1 : Nat) (i0 : Is3 c0) (i1 : Is9 c1) (k55 : Int → Int → S2 → Option (S2)) (hk55 : ∀ (x3 : Int) (x4 : Int) (S : S2) (H : Heap) (locs : List Loc) (ls : Array Slot), k55 x3 x4 S = some out → WH X shC nC s S H locs → lv_has ls 6 [(0, .ref (X.2.2 c0)), (3, .int (iz x3)), (4, .int (iz x4))] → W p l e rmX3_add s m args below meth c H locs 0 0 (QV X shC nC s args below out) (F0 m 55 ls [])) : ∀ (N : Nat), ∀ (x2 : Int) (x3 : Int) (x4 : Int) (x5 : Int) (S : S2) (H : Heap) (locs : List Loc) (ls : Array Slot), f_X3_add_13 c0 c1 k55 N x2 x3 x4 x5 S = some out → WH X shC nC s S H locs → lv_has ls 6 [(0, .ref (X.2.2 c0)), (1, .ref (X.2.2 c1)), (2, .int (iz x2)), (3, .int (iz x3)), (4, .int (iz x4)), (5, .int (iz x5))] → W p l e rmX3_add s m args below meth c H locs 0 0 (QV X shC nC s args below out) (F0 m 13 ls []) := by
  intro N
  induction N with
  | zero => intro x2 x3 x4 x5 S H locs ls hf hw hl; cases hf
  | succ N ih =>
    intro x2 x3 x4 x5 S H locs ls hf hw hl
    rw [f_X3_add_13.eq_2] at hf
    refine lv_iload C.1.1 C.1.2.1 dX3_add_13 (lv_at hl 5 rfl) ?_
    refine lv_iload_n C.1.1 C.1.2.1 dX3_add_15 rfl (lv_at hl 3 rfl) ?_
    refine r_icmp_ge C (tgt := 55) dX3_add_16 (by decide) hf (fun hf => ?_) (fun hf => ?_)
    · exact hk55 x3 x4 S H locs ls hf hw (lv_sub hl [0, 3, 4] rfl)
    · refine lv_iload C.1.1 C.1.2.1 dX3_add_19 (lv_at hl 5 rfl) ?_
      refine r_bipush (v := 6) C dX3_add_21 (by decide) ?_
      refine r_icmp_ge C (tgt := 55) dX3_add_23 (by decide) hf (fun hf => ?_) (fun hf => ?_)
      · exact hk55 x3 x4 S H locs ls hf hw (lv_sub hl [0, 3, 4] rfl)
      · refine lv_aload_n C.1.1 C.1.2.1 dX3_add_26 rfl (lv_at hl 0 rfl) ?_
        refine r_getR (k := 5) C hw (is3_s i0) (is3_l i0) cO3 rfl (by decide) tw1_179 rfl dX3_add_27 ?_
        refine lv_aload_n C.1.1 C.1.2.1 dX3_add_30 rfl (lv_at hl 0 rfl) ?_
        refine r_getI (k := 0) C hw (is3_s i0) (is3_l i0) cO3 rfl (by decide) tw1_166 rfl dX3_add_31 hf (fun v31 hf => ?_)
        refine r_bipush (v := 6) C dX3_add_34 (by decide) ?_
        refine r_imul C dX3_add_36 ?_
        refine lv_iload C.1.1 C.1.2.1 dX3_add_37 (lv_at hl 5 rfl) ?_
        refine r_iadd C dX3_add_39 ?_
        refine lv_aload_n C.1.1 C.1.2.1 dX3_add_40 rfl (lv_at hl 1 rfl) ?_
        refine lv_iload_n C.1.1 C.1.2.1 dX3_add_41 rfl (lv_at hl 2 rfl) ?_
        refine lv_iload C.1.1 C.1.2.1 dX3_add_42 (lv_at hl 5 rfl) ?_
        refine r_iadd C dX3_add_44 ?_
        refine r_callI (As := [.int (iz (x2 + x5))]) (rest := [.int (iz ((v31 * 6) + x5)), .ref (X.2.2 (c0 + 4))]) (rm := rmX9_byteAt) C hw (is9_s i1) (is9_l i1) cO9 tw3_0 tw2_144 tw2_145 tw1_3 tw2_146 hd_X9_byteAt rfl ⟨⟨rfl, rfl⟩, Nat.le_of_ble_eq_true rfl, Nat.le_of_ble_eq_true rfl⟩ hl.1 rfl (Nat.le_of_ble_eq_true rfl) dX3_add_45 hf (fun o ho => c_X9_byteAt l X hinj hZ N S c1 (x2 + x5) i1 o ho) (fun v45 S45 H locs hf hw => ?_)
        refine r_cast C hw (is3_s4 i0) (is3_l4 i0) (Nat.le_of_ble_eq_true rfl) dX3_add_48 hf (fun S48 H locs hf hw => ?_)
        refine lv_iinc (v := iz (x5 + 1)) (lv' := [(5, .int (iz (x5 + 1))), (0, .ref (X.2.2 c0)), (1, .ref (X.2.2 c1)), (2, .int (iz x2)), (3, .int (iz x3)), (4, .int (iz x4))]) C.1.1 C.1.2.1 dX3_add_49 hl (k := 5) rfl (iz_add _ _) (by decide) rfl (fun ls hl => ?_)
        refine lv_goto (tgt := 13) C.1.1 C.1.2.1 dX3_add_52 (by decide) ?_
        exact ih x2 x3 x4 (x5 + 1) S48 H locs ls hf hw (lv_sub hl [1, 2, 3, 4, 5, 0] rfl)
set_option maxRecDepth 100000 in
set_option maxHeartbeats 4000000 in
theorem c_X3_add (l : Launch) (X : XT) (hinj : XInj X nC) (hZ : ZOK (Zc X)) (N : Nat) (S : S2) (c0 : Nat) (c1 : Nat) (a2 : Int) (a3 : Int) (a4 : Int) (i0 : Is3 c0) (i1 : Is9 c1) (out : S2) (hf : f_X3_add N S c0 c1 a2 a3 a4 = some out) : MV l X shC nC (Zc X) yX3_add cX3_add 6 none rmX3_add [.ref (X.2.2 c0), .ref (X.2.2 c1), .int (iz a2), .int (iz a3), .int (iz a4)] S out := by
  refine met_V (own := RX3) (by decide) rfl hinj hZ (Nat.le_of_ble_eq_true rfl) (fun p e s m args below meth c C ls H locs hw hl => ?_)
  unfold f_X3_add at hf
  have hl : lv_has ls 6 [(0, .ref (X.2.2 c0)), (1, .ref (X.2.2 c1)), (2, .int (iz a2)), (3, .int (iz a3)), (4, .int (iz a4))] := hl
  refine lv_aload_n C.1.1 C.1.2.1 dX3_add_0 rfl (lv_at hl 0 rfl) ?_
  refine r_getI (k := 0) C hw (is3_s i0) (is3_l i0) cO3 rfl (by decide) tw1_166 rfl dX3_add_1 hf (fun v1 hf => ?_)
  refine r_bipush (v := 8) C dX3_add_4 (by decide) ?_
  refine r_icmp_lt C (tgt := 10) dX3_add_6 (by decide) hf (fun hf => ?_) (fun hf => ?_)
  · refine r_iconst (v := 0) C dX3_add_10 ?_
    refine lv_istore (lv' := [(5, .int (iz 0)), (0, .ref (X.2.2 c0)), (1, .ref (X.2.2 c1)), (2, .int (iz a2)), (3, .int (iz a3)), (4, .int (iz a4))]) C.1.1 C.1.2.1 dX3_add_11 hl (by decide) rfl (fun ls hl => ?_)
    exact (w_X3_add_13 l hinj hZ C out c0 c1 i0 i1 (f_X3_add_55 c0 c1 N) (w_X3_add_55 l hinj hZ C out c0 c1 i0 i1 N) N) a2 a3 a4 0 S H locs ls hf hw (lv_sub hl [1, 2, 3, 4, 5, 0] rfl)
  · exact r_retV C hw dX3_add_9 hf
def f_X3_isNamed_3 (c0 : Nat) (c1 : Nat) : Nat → Int → Int → Int → S2 → Option (Int × S2)
  | 0, _, _, _, _ => none
  | N + 1, x1, x3, x4, S => aI S (c0 + 2) 8 x1 fun v10 => cI x4 v10 (if v10 ≤ x4 then rZ 1 S else bI (f_X3_letter N S c0 x1 x4) fun v18 S18 => bI (f_X9_byteAt N S18 c1 (x3 + x4)) fun v26 S26 => cI v18 v26 (if v18 = v26 then (f_X3_isNamed_3 c0 c1 N) x1 x3 (x4 + 1) S26 else rZ 0 S26))
def f_X3_isNamed (N : Nat) (S : S2) (c0 : Nat) (a1 : Int) (c1 : Nat) (a3 : Int) : Option (Int × S2) := (f_X3_isNamed_3 c0 c1 N) a1 a3 0 S
abbrev rmX3_isNamed : Room := { frames := 1, cells := 0, slots := 0, locals := 22 }
theorem hd_X3_isNamed : yX3_isNamed.cls ≠ "java/lang/invoke/MethodHandle" ∧ yX3_isNamed.cls ≠ "java/lang/invoke/VarHandle" ∧ (parseMethodDescriptor yX3_isNamed.desc).map (fun d => d.parameters.length) = some 3 := by decide +kernel
set_option maxRecDepth 100000 in
set_option maxHeartbeats 4000000 in
theorem w_X3_isNamed_3 {p : Program} (l : Launch) {e : Env} {s : State} {m : MethodId} {args : Array Value} {below : List Frame} {meth : Method} {c : Code} {X : XT} (hinj : XInj X nC) (hZ : ZOK (Zc X)) (C : CX p s m args meth c cX3_isNamed 5 RX3 (some .boolean) X nC (Zc X)) (out : Int × S2) (c0 : Nat) (c1 : Nat) (i0 : Is3 c0) (i1 : Is9 c1) : ∀ (N : Nat), ∀ (x1 : Int) (x3 : Int) (x4 : Int) (S : S2) (H : Heap) (locs : List Loc) (ls : Array Slot), f_X3_isNamed_3 c0 c1 N x1 x3 x4 S = some out → WH X shC nC s S H locs → lv_has ls 5 [(0, .ref (X.2.2 c0)), (1, .int (iz x1)), (2, .ref (X.2.2 c1)), (3, .int (iz x3)), (4, .int (iz x4))] → W p l e rmX3_isNamed s m args below meth c H locs 0 0 (QI X shC nC s args below out) (F0 m 3 ls []) := by
  intro N
  induction N with
  | zero => intro x1 x3 x4 S H locs ls hf hw hl; cases hf
  | succ N ih =>
    intro x1 x3 x4 S H locs ls hf hw hl
    rw [f_X3_isNamed_3.eq_2] at hf
    refine lv_iload C.1.1 C.1.2.1 dX3_isNamed_3 (lv_at hl 4 rfl) ?_
    refine lv_aload_n C.1.1 C.1.2.1 dX3_isNamed_5 rfl (lv_at hl 0 rfl) ?_
    refine r_getR (k := 3) C hw (is3_s i0) (is3_l i0) cO3 rfl (by decide) tw1_174 rfl dX3_isNamed_6 ?_
    refine lv_iload_n C.1.1 C.1.2.1 dX3_isNamed_9 rfl (lv_at hl 1 rfl) ?_
    refine r_iald C hw (is3_s2 i0) (is3_l2 i0) (Nat.le_of_ble_eq_true rfl) dX3_isNamed_10 hf (fun v10 hf => ?_)
    refine r_icmp_ge C (tgt := 40) dX3_isNamed_11 (by decide) hf (fun hf => ?_) (fun hf => ?_)
    · refine r_iconst (v := 1) C dX3_isNamed_40 ?_
      exact r_retZ C hw dX3_isNamed_41 hf
    · refine lv_aload_n C.1.1 C.1.2.1 dX3_isNamed_14 rfl (lv_at hl 0 rfl) ?_
      refine lv_iload_n C.1.1 C.1.2.1 dX3_isNamed_15 rfl (lv_at hl 1 rfl) ?_
      refine lv_iload C.1.1 C.1.2.1 dX3_isNamed_16 (lv_at hl 4 rfl) ?_
      refine r_callI (As := [.int (iz x1), .int (iz x4)]) (rest := []) (rm := rmX3_letter) C hw (is3_s i0) (is3_l i0) cO3 tw2_236 tw2_237 tw2_238 tw1_6 tw2_239 hd_X3_letter rfl ⟨⟨rfl, rfl⟩, Nat.le_of_ble_eq_true rfl, Nat.le_of_ble_eq_true rfl⟩ hl.1 rfl (Nat.le_of_ble_eq_true rfl) dX3_isNamed_18 hf (fun o ho => c_X3_letter l X hinj hZ N S c0 x1 x4 i0 o ho) (fun v18 S18 H locs hf hw => ?_)
      refine lv_aload_n C.1.1 C.1.2.1 dX3_isNamed_21 rfl (lv_at hl 2 rfl) ?_
      refine lv_iload_n C.1.1 C.1.2.1 dX3_isNamed_22 rfl (lv_at hl 3 rfl) ?_
      refine lv_iload C.1.1 C.1.2.1 dX3_isNamed_23 (lv_at hl 4 rfl) ?_
      refine r_iadd C dX3_isNamed_25 ?_
      refine r_callI (As := [.int (iz (x3 + x4))]) (rest := [.int (iz v18)]) (rm := rmX9_byteAt) C hw (is9_s i1) (is9_l i1) cO9 tw3_0 tw2_144 tw2_145 tw1_3 tw2_146 hd_X9_byteAt rfl ⟨⟨rfl, rfl⟩, Nat.le_of_ble_eq_true rfl, Nat.le_of_ble_eq_true rfl⟩ hl.1 rfl (Nat.le_of_ble_eq_true rfl) dX3_isNamed_26 hf (fun o ho => c_X9_byteAt l X hinj hZ N S18 c1 (x3 + x4) i1 o ho) (fun v26 S26 H locs hf hw => ?_)
      refine r_icmp_eq C (tgt := 34) dX3_isNamed_29 (by decide) hf (fun hf => ?_) (fun hf => ?_)
      · refine lv_iinc (v := iz (x4 + 1)) (lv' := [(4, .int (iz (x4 + 1))), (0, .ref (X.2.2 c0)), (1, .int (iz x1)), (2, .ref (X.2.2 c1)), (3, .int (iz x3))]) C.1.1 C.1.2.1 dX3_isNamed_34 hl (k := 4) rfl (iz_add _ _) (by decide) rfl (fun ls hl => ?_)
        refine lv_goto (tgt := 3) C.1.1 C.1.2.1 dX3_isNamed_37 (by decide) ?_
        exact ih x1 x3 (x4 + 1) S26 H locs ls hf hw (lv_sub hl [1, 2, 3, 4, 0] rfl)
      · refine r_iconst (v := 0) C dX3_isNamed_32 ?_
        exact r_retZ C hw dX3_isNamed_33 hf
set_option maxRecDepth 100000 in
set_option maxHeartbeats 4000000 in
theorem c_X3_isNamed (l : Launch) (X : XT) (hinj : XInj X nC) (hZ : ZOK (Zc X)) (N : Nat) (S : S2) (c0 : Nat) (a1 : Int) (c1 : Nat) (a3 : Int) (i0 : Is3 c0) (i1 : Is9 c1) (out : Int × S2) (hf : f_X3_isNamed N S c0 a1 c1 a3 = some out) : MI l X shC nC (Zc X) yX3_isNamed cX3_isNamed 5 (some .boolean) rmX3_isNamed [.ref (X.2.2 c0), .int (iz a1), .ref (X.2.2 c1), .int (iz a3)] S out := by
  refine met_I (own := RX3) (by decide) rfl hinj hZ (Nat.le_of_ble_eq_true rfl) (fun p e s m args below meth c C ls H locs hw hl => ?_)
  unfold f_X3_isNamed at hf
  have hl : lv_has ls 5 [(0, .ref (X.2.2 c0)), (1, .int (iz a1)), (2, .ref (X.2.2 c1)), (3, .int (iz a3))] := hl
  refine r_iconst (v := 0) C dX3_isNamed_0 ?_
  refine lv_istore (lv' := [(4, .int (iz 0)), (0, .ref (X.2.2 c0)), (1, .int (iz a1)), (2, .ref (X.2.2 c1)), (3, .int (iz a3))]) C.1.1 C.1.2.1 dX3_isNamed_1 hl (by decide) rfl (fun ls hl => ?_)
  exact (w_X3_isNamed_3 l hinj hZ C out c0 c1 i0 i1 N) a1 a3 0 S H locs ls hf hw (lv_sub hl [1, 2, 3, 4, 0] rfl)
def f_X3_match_101 (c0 : Nat) (c1 : Nat) (k28 : Int → Int → Int → S2 → Option (Int × S2)) (N : Nat) (x2 : Int) (x3 : Int) (x4 : Int) (S : S2) : Option (Int × S2) := k28 x2 x3 (x4 + 1) S
def f_X3_match_28 (c0 : Nat) (c1 : Nat) : Nat → Int → Int → Int → S2 → Option (Int × S2)
  | 0, _, _, _, _ => none
  | N + 1, x2, x3, x4, S => gI S c1 1 fun v31 => cI x4 v31 (if v31 ≤ x4 then rI x3 S else gI S c0 0 fun v39 => cI x3 v39 (if v39 ≤ x3 then rI x3 S else bI (f_X5_placeOf N S c1 x4) fun v48 S48 => bI (f_X3_nearestFree N S48 c0 (v48 + x2)) fun v58 S58 => cI v58 (-1) (if v58 = (-1) then (f_X3_match_101 c0 c1 (f_X3_match_28 c0 c1 N) N) x2 x3 x4 S58 else aI S58 (c0 + 1) 8 v58 fun v75 => abI (v75 - (v48 + x2)) fun v79 => gI S58 c0 1 fun v83 => cI v79 v83 (if v83 < v79 then (f_X3_match_101 c0 c1 (f_X3_match_28 c0 c1 N) N) x2 x3 x4 S58 else sI S58 (c0 + 3) 8 v58 x4 fun S97 => (f_X3_match_101 c0 c1 (f_X3_match_28 c0 c1 N) N) x2 (x3 + 1) x4 S97))))
def f_X3_match_23 (c0 : Nat) (c1 : Nat) (N : Nat) (x2 : Int) (S : S2) : Option (Int × S2) := (f_X3_match_28 c0 c1 N) x2 0 0 S
def f_X3_match_2 (c0 : Nat) (c1 : Nat) (k23 : Int → S2 → Option (Int × S2)) : Nat → Int → Int → S2 → Option (Int × S2)
  | 0, _, _, _ => none
  | N + 1, x2, x3, S => gI S c0 0 fun v4 => cI x3 v4 (if v4 ≤ x3 then k23 x2 S else sI S (c0 + 3) 8 x3 (-1) fun S16 => (f_X3_match_2 c0 c1 k23 N) x2 (x3 + 1) S16)
def f_X3_match (N : Nat) (S : S2) (c0 : Nat) (c1 : Nat) (a2 : Int) : Option (Int × S2) := (f_X3_match_2 c0 c1 (f_X3_match_23 c0 c1 N) N) a2 0 S
abbrev rmX3_match : Room := { frames := 2, cells := 0, slots := 0, locals := 44 }
theorem hd_X3_match : yX3_match.cls ≠ "java/lang/invoke/MethodHandle" ∧ yX3_match.cls ≠ "java/lang/invoke/VarHandle" ∧ (parseMethodDescriptor yX3_match.desc).map (fun d => d.parameters.length) = some 2 := by decide +kernel
set_option maxRecDepth 100000 in
set_option maxHeartbeats 4000000 in
theorem w_X3_match_101 {p : Program} (l : Launch) {e : Env} {s : State} {m : MethodId} {args : Array Value} {below : List Frame} {meth : Method} {c : Code} {X : XT} (hinj : XInj X nC) (hZ : ZOK (Zc X)) (C : CX p s m args meth c cX3_match 7 RX3 (some .int) X nC (Zc X)) (out : Int × S2) (c0 : Nat) (c1 : Nat) (i0 : Is3 c0) (i1 : Is5 c1) (k28 : Int → Int → Int → S2 → Option (Int × S2)) (hk28 : ∀ (x2 : Int) (x3 : Int) (x4 : Int) (S : S2) (H : Heap) (locs : List Loc) (ls : Array Slot), k28 x2 x3 x4 S = some out → WH X shC nC s S H locs → lv_has ls 7 [(0, .ref (X.2.2 c0)), (1, .ref (X.2.2 c1)), (2, .int (iz x2)), (3, .int (iz x3)), (4, .int (iz x4))] → W p l e rmX3_match s m args below meth c H locs 0 0 (QI X shC nC s args below out) (F0 m 28 ls [])) : ∀ (N : Nat), ∀ (x2 : Int) (x3 : Int) (x4 : Int) (S : S2) (H : Heap) (locs : List Loc) (ls : Array Slot), f_X3_match_101 c0 c1 k28 N x2 x3 x4 S = some out → WH X shC nC s S H locs → lv_has ls 7 [(0, .ref (X.2.2 c0)), (1, .ref (X.2.2 c1)), (2, .int (iz x2)), (3, .int (iz x3)), (4, .int (iz x4))] → W p l e rmX3_match s m args below meth c H locs 0 0 (QI X shC nC s args below out) (F0 m 101 ls []) := by
  intro N x2 x3 x4 S H locs ls hf hw hl
  unfold f_X3_match_101 at hf
  refine lv_iinc (v := iz (x4 + 1)) (lv' := [(4, .int (iz (x4 + 1))), (0, .ref (X.2.2 c0)), (1, .ref (X.2.2 c1)), (2, .int (iz x2)), (3, .int (iz x3))]) C.1.1 C.1.2.1 dX3_match_101 hl (k := 4) rfl (iz_add _ _) (by decide) rfl (fun ls hl => ?_)
  refine lv_goto (tgt := 28) C.1.1 C.1.2.1 dX3_match_104 (by decide) ?_
  exact hk28 x2 x3 (x4 + 1) S H locs ls hf hw (lv_sub hl [1, 2, 3, 4, 0] rfl)
set_option maxRecDepth 100000 in
set_option maxHeartbeats 4000000 in
theorem w_X3_match_28 {p : Program} (l : Launch) {e : Env} {s : State} {m : MethodId} {args : Array Value} {below : List Frame} {meth : Method} {c : Code} {X : XT} (hinj : XInj X nC) (hZ : ZOK (Zc X)) (C : CX p s m args meth c cX3_match 7 RX3 (some .int) X nC (Zc X)) (out : Int × S2) (c0 : Nat) (c1 : Nat) (i0 : Is3 c0) (i1 : Is5 c1) : ∀ (N : Nat), ∀ (x2 : Int) (x3 : Int) (x4 : Int) (S : S2) (H : Heap) (locs : List Loc) (ls : Array Slot), f_X3_match_28 c0 c1 N x2 x3 x4 S = some out → WH X shC nC s S H locs → lv_has ls 7 [(0, .ref (X.2.2 c0)), (1, .ref (X.2.2 c1)), (2, .int (iz x2)), (3, .int (iz x3)), (4, .int (iz x4))] → W p l e rmX3_match s m args below meth c H locs 0 0 (QI X shC nC s args below out) (F0 m 28 ls []) := by
  intro N
  induction N with
  | zero => intro x2 x3 x4 S H locs ls hf hw hl; cases hf
  | succ N ih =>
    intro x2 x3 x4 S H locs ls hf hw hl
    rw [f_X3_match_28.eq_2] at hf
    refine lv_iload C.1.1 C.1.2.1 dX3_match_28 (lv_at hl 4 rfl) ?_
    refine lv_aload_n C.1.1 C.1.2.1 dX3_match_30 rfl (lv_at hl 1 rfl) ?_
    refine r_getI (k := 1) C hw (is5_s i1) (is5_l i1) cO5 rfl (by decide) tw1_114 rfl dX3_match_31 hf (fun v31 hf => ?_)
    refine r_icmp_ge C (tgt := 107) dX3_match_34 (by decide) hf (fun hf => ?_) (fun hf => ?_)
    · refine lv_iload_n C.1.1 C.1.2.1 dX3_match_107 rfl (lv_at hl 3 rfl) ?_
      exact r_retI C hw dX3_match_108 hf
    · refine lv_iload_n C.1.1 C.1.2.1 dX3_match_37 rfl (lv_at hl 3 rfl) ?_
      refine lv_aload_n C.1.1 C.1.2.1 dX3_match_38 rfl (lv_at hl 0 rfl) ?_
      refine r_getI (k := 0) C hw (is3_s i0) (is3_l i0) cO3 rfl (by decide) tw1_166 rfl dX3_match_39 hf (fun v39 hf => ?_)
      refine r_icmp_ge C (tgt := 107) dX3_match_42 (by decide) hf (fun hf => ?_) (fun hf => ?_)
      · refine lv_iload_n C.1.1 C.1.2.1 dX3_match_107 rfl (lv_at hl 3 rfl) ?_
        exact r_retI C hw dX3_match_108 hf
      · refine lv_aload_n C.1.1 C.1.2.1 dX3_match_45 rfl (lv_at hl 1 rfl) ?_
        refine lv_iload C.1.1 C.1.2.1 dX3_match_46 (lv_at hl 4 rfl) ?_
        refine r_callI (As := [.int (iz x4)]) (rest := []) (rm := rmX5_placeOf) C hw (is5_s i1) (is5_l i1) cO5 tw3_218 tw3_167 tw3_168 tw1_5 tw3_169 hd_X5_placeOf rfl ⟨⟨rfl, rfl⟩, Nat.le_of_ble_eq_true rfl, Nat.le_of_ble_eq_true rfl⟩ hl.1 rfl (Nat.le_of_ble_eq_true rfl) dX3_match_48 hf (fun o ho => c_X5_placeOf l X hinj hZ N S c1 x4 i1 o ho) (fun v48 S48 H locs hf hw => ?_)
        refine lv_iload_n C.1.1 C.1.2.1 dX3_match_51 rfl (lv_at hl 2 rfl) ?_
        refine r_iadd C dX3_match_52 ?_
        refine lv_istore (lv' := [(5, .int (iz (v48 + x2))), (0, .ref (X.2.2 c0)), (1, .ref (X.2.2 c1)), (2, .int (iz x2)), (3, .int (iz x3)), (4, .int (iz x4))]) C.1.1 C.1.2.1 dX3_match_53 hl (by decide) rfl (fun ls hl => ?_)
        refine lv_aload_n C.1.1 C.1.2.1 dX3_match_55 rfl (lv_at hl 1 rfl) ?_
        refine lv_iload C.1.1 C.1.2.1 dX3_match_56 (lv_at hl 0 rfl) ?_
        refine r_callI (As := [.int (iz (v48 + x2))]) (rest := []) (rm := rmX3_nearestFree) C hw (is3_s i0) (is3_l i0) cO3 tw3_219 tw3_221 tp_24 tw1_6 tw3_222 hd_X3_nearestFree rfl ⟨⟨rfl, rfl⟩, Nat.le_of_ble_eq_true rfl, Nat.le_of_ble_eq_true rfl⟩ hl.1 rfl (Nat.le_of_ble_eq_true rfl) dX3_match_58 hf (fun o ho => c_X3_nearestFree l X hinj hZ N S48 c0 (v48 + x2) i0 o ho) (fun v58 S58 H locs hf hw => ?_)
        refine lv_istore (lv' := [(6, .int (iz v58)), (5, .int (iz (v48 + x2))), (0, .ref (X.2.2 c0)), (1, .ref (X.2.2 c1)), (2, .int (iz x2)), (3, .int (iz x3)), (4, .int (iz x4))]) C.1.1 C.1.2.1 dX3_match_61 hl (by decide) rfl (fun ls hl => ?_)
        refine lv_iload C.1.1 C.1.2.1 dX3_match_63 (lv_at hl 0 rfl) ?_
        refine r_iconst (v := (-1)) C dX3_match_65 ?_
        refine r_icmp_eq C (tgt := 101) dX3_match_66 (by decide) hf (fun hf => ?_) (fun hf => ?_)
        · exact (w_X3_match_101 l hinj hZ C out c0 c1 i0 i1 (f_X3_match_28 c0 c1 N) ih N) x2 x3 x4 S58 H locs ls hf hw (lv_sub hl [2, 3, 4, 5, 6] rfl)
        · refine lv_aload_n C.1.1 C.1.2.1 dX3_match_69 rfl (lv_at hl 2 rfl) ?_
          refine r_getR (k := 2) C hw (is3_s i0) (is3_l i0) cO3 rfl (by decide) tw1_172 rfl dX3_match_70 ?_
          refine lv_iload C.1.1 C.1.2.1 dX3_match_73 (lv_at hl 0 rfl) ?_
          refine r_iald C hw (is3_s1 i0) (is3_l1 i0) (Nat.le_of_ble_eq_true rfl) dX3_match_75 hf (fun v75 hf => ?_)
          refine lv_iload C.1.1 C.1.2.1 dX3_match_76 (lv_at hl 1 rfl) ?_
          refine r_isub C dX3_match_78 ?_
          refine r_abs C tw3_223 tw3_224 tw1_18 tw3_225 hl.1 (Nat.le_of_ble_eq_true rfl) (Nat.le_of_ble_eq_true rfl) dX3_match_79 hf (fun v79 hf => ?_)
          refine lv_aload_n C.1.1 C.1.2.1 dX3_match_82 rfl (lv_at hl 2 rfl) ?_
          refine r_getI (k := 1) C hw (is3_s i0) (is3_l i0) cO3 rfl (by decide) tw1_169 rfl dX3_match_83 hf (fun v83 hf => ?_)
          refine r_icmp_gt C (tgt := 101) dX3_match_86 (by decide) hf (fun hf => ?_) (fun hf => ?_)
          · exact (w_X3_match_101 l hinj hZ C out c0 c1 i0 i1 (f_X3_match_28 c0 c1 N) ih N) x2 x3 x4 S58 H locs ls hf hw (lv_sub hl [2, 3, 4, 5, 6] rfl)
          · refine lv_aload_n C.1.1 C.1.2.1 dX3_match_89 rfl (lv_at hl 2 rfl) ?_
            refine r_getR (k := 4) C hw (is3_s i0) (is3_l i0) cO3 rfl (by decide) tw1_177 rfl dX3_match_90 ?_
            refine lv_iload C.1.1 C.1.2.1 dX3_match_93 (lv_at hl 0 rfl) ?_
            refine lv_iload C.1.1 C.1.2.1 dX3_match_95 (lv_at hl 6 rfl) ?_
            refine r_iast C hw (is3_s3 i0) (is3_l3 i0) (Nat.le_of_ble_eq_true rfl) dX3_match_97 hf (fun S97 H locs hf hw => ?_)
            refine lv_iinc (v := iz (x3 + 1)) (lv' := [(3, .int (iz (x3 + 1))), (6, .int (iz v58)), (5, .int (iz (v48 + x2))), (0, .ref (X.2.2 c0)), (1, .ref (X.2.2 c1)), (2, .int (iz x2)), (4, .int (iz x4))]) C.1.1 C.1.2.1 dX3_match_98 hl (k := 5) rfl (iz_add _ _) (by decide) rfl (fun ls hl => ?_)
            exact (w_X3_match_101 l hinj hZ C out c0 c1 i0 i1 (f_X3_match_28 c0 c1 N) ih N) x2 (x3 + 1) x4 S97 H locs ls hf hw (lv_sub hl [3, 4, 5, 0, 6] rfl)
set_option maxRecDepth 100000 in
set_option maxHeartbeats 4000000 in
theorem w_X3_match_23 {p : Program} (l : Launch) {e : Env} {s : State} {m : MethodId} {args : Array Value} {below : List Frame} {meth : Method} {c : Code} {X : XT} (hinj : XInj X nC) (hZ : ZOK (Zc X)) (C : CX p s m args meth c cX3_match 7 RX3 (some .int) X nC (Zc X)) (out : Int × S2) (c0 : Nat) (c1 : Nat) (i0 : Is3 c0) (i1 : Is5 c1) : ∀ (N : Nat), ∀ (x2 : Int) (S : S2) (H : Heap) (locs : List Loc) (ls : Array Slot), f_X3_match_23 c0 c1 N x2 S = some out → WH X shC nC s S H locs → lv_has ls 7 [(0, .ref (X.2.2 c0)), (1, .ref (X.2.2 c1)), (2, .int (iz x2))] → W p l e rmX3_match s m args below meth c H locs 0 0 (QI X shC nC s args below out) (F0 m 23 ls []) := by
  intro N x2 S H locs ls hf hw hl
  unfold f_X3_match_23 at hf
  refine r_iconst (v := 0) C dX3_match_23 ?_
  refine lv_istore_n (lv' := [(3, .int (iz 0)), (0, .ref (X.2.2 c0)), (1, .ref (X.2.2 c1)), (2, .int (iz x2))]) C.1.1 C.1.2.1 dX3_match_24 rfl hl (by decide) rfl (fun ls hl => ?_)
  refine r_iconst (v := 0) C dX3_match_25 ?_
  refine lv_istore (lv' := [(4, .int (iz 0)), (3, .int (iz 0)), (0, .ref (X.2.2 c0)), (1, .ref (X.2.2 c1)), (2, .int (iz x2))]) C.1.1 C.1.2.1 dX3_match_26 hl (by decide) rfl (fun ls hl => ?_)
  exact (w_X3_match_28 l hinj hZ C out c0 c1 i0 i1 N) x2 0 0 S H locs ls hf hw (lv_sub hl [2, 3, 4, 1, 0] rfl)
set_option maxRecDepth 100000 in
set_option maxHeartbeats 4000000 in
theorem w_X3_match_2 {p : Program} (l : Launch) {e : Env} {s : State} {m : MethodId} {args : Array Value} {below : List Frame} {meth : Method} {c : Code} {X : XT} (hinj : XInj X nC) (hZ : ZOK (Zc X)) (C : CX p s m args meth c cX3_match 7 RX3 (some .int) X nC (Zc X)) (out : Int × S2) (c0 : Nat) (c1 : Nat) (i0 : Is3 c0) (i1 : Is5 c1) (k23 : Int → S2 → Option (Int × S2)) (hk23 : ∀ (x2 : Int) (S : S2) (H : Heap) (locs : List Loc) (ls : Array Slot), k23 x2 S = some out → WH X shC nC s S H locs → lv_has ls 7 [(0, .ref (X.2.2 c0)), (1, .ref (X.2.2 c1)), (2, .int (iz x2))] → W p l e rmX3_match s m args below meth c H locs 0 0 (QI X shC nC s args below out) (F0 m 23 ls [])) : ∀ (N : Nat), ∀ (x2 : Int) (x3 : Int) (S : S2) (H : Heap) (locs : List Loc) (ls : Array Slot), f_X3_match_2 c0 c1 k23 N x2 x3 S = some out → WH X shC nC s S H locs → lv_has ls 7 [(0, .ref (X.2.2 c0)), (1, .ref (X.2.2 c1)), (2, .int (iz x2)), (3, .int (iz x3))] → W p l e rmX3_match s m args below meth c H locs 0 0 (QI X shC nC s args below out) (F0 m 2 ls []) := by
  intro N
  induction N with
  | zero => intro x2 x3 S H locs ls hf hw hl; cases hf
  | succ N ih =>
    intro x2 x3 S H locs ls hf hw hl
    rw [f_X3_match_2.eq_2] at hf
    refine lv_iload_n C.1.1 C.1.2.1 dX3_match_2 rfl (lv_at hl 3 rfl) ?_
    refine lv_aload_n C.1.1 C.1.2.1 dX3_match_3 rfl (lv_at hl 0 rfl) ?_
    refine r_getI (k := 0) C hw (is3_s i0) (is3_l i0) cO3 rfl (by decide) tw1_166 rfl dX3_match_4 hf (fun v4 hf => ?_)
    refine r_icmp_ge C (tgt := 23) dX3_match_7 (by decide) hf (fun hf => ?_) (fun hf => ?_)
    · exact hk23 x2 S H locs ls hf hw (lv_sub hl [0, 1, 2] rfl)
    · refine lv_aload_n C.1.1 C.1.2.1 dX3_match_10 rfl (lv_at hl 0 rfl) ?_
      refine r_getR (k := 4) C hw (is3_s i0) (is3_l i0) cO3 rfl (by decide) tw1_177 rfl dX3_match_11 ?_
      refine lv_iload_n C.1.1 C.1.2.1 dX3_match_14 rfl (lv_at hl 3 rfl) ?_
      refine r_iconst (v := (-1)) C dX3_match_15 ?_
      refine r_iast C hw (is3_s3 i0) (is3_l3 i0) (Nat.le_of_ble_eq_true rfl) dX3_match_16 hf (fun S16 H locs hf hw => ?_)
      refine lv_iinc (v := iz (x3 + 1)) (lv' := [(3, .int (iz (x3 + 1))), (0, .ref (X.2.2 c0)), (1, .ref (X.2.2 c1)), (2, .int (iz x2))]) C.1.1 C.1.2.1 dX3_match_17 hl (k := 3) rfl (iz_add _ _) (by decide) rfl (fun ls hl => ?_)
      refine lv_goto (tgt := 2) C.1.1 C.1.2.1 dX3_match_20 (by decide) ?_
      exact ih x2 (x3 + 1) S16 H locs ls hf hw (lv_sub hl [1, 2, 3, 0] rfl)
set_option maxRecDepth 100000 in
set_option maxHeartbeats 4000000 in
theorem c_X3_match (l : Launch) (X : XT) (hinj : XInj X nC) (hZ : ZOK (Zc X)) (N : Nat) (S : S2) (c0 : Nat) (c1 : Nat) (a2 : Int) (i0 : Is3 c0) (i1 : Is5 c1) (out : Int × S2) (hf : f_X3_match N S c0 c1 a2 = some out) : MI l X shC nC (Zc X) yX3_match cX3_match 7 (some .int) rmX3_match [.ref (X.2.2 c0), .ref (X.2.2 c1), .int (iz a2)] S out := by
  refine met_I (own := RX3) (by decide) rfl hinj hZ (Nat.le_of_ble_eq_true rfl) (fun p e s m args below meth c C ls H locs hw hl => ?_)
  unfold f_X3_match at hf
  have hl : lv_has ls 7 [(0, .ref (X.2.2 c0)), (1, .ref (X.2.2 c1)), (2, .int (iz a2))] := hl
  refine r_iconst (v := 0) C dX3_match_0 ?_
  refine lv_istore_n (lv' := [(3, .int (iz 0)), (0, .ref (X.2.2 c0)), (1, .ref (X.2.2 c1)), (2, .int (iz a2))]) C.1.1 C.1.2.1 dX3_match_1 rfl hl (by decide) rfl (fun ls hl => ?_)
  exact (w_X3_match_2 l hinj hZ C out c0 c1 i0 i1 (f_X3_match_23 c0 c1 N) (w_X3_match_23 l hinj hZ C out c0 c1 i0 i1 N) N) a2 0 S H locs ls hf hw (lv_sub hl [1, 2, 3, 0] rfl)
def f_X5_come_66 (c0 : Nat) (c1 : Nat) (N : Nat) (x2 : Int) (x3 : Int) (x4 : Int) (S : S2) : Option (S2) := cI x4 (-1) (if x4 = (-1) then sI S (c0 + 4) 48 x3 x2 fun S78 => sI S78 (c0 + 2) 48 x2 x3 fun S85 => rV S85 else cI x3 (-1) (if x3 = (-1) then sI S (c0 + 3) 48 x4 x2 fun S101 => sI S101 (c0 + 2) 48 x2 x4 fun S109 => rV S109 else aI S (c1 + 1) 48 x2 fun v123 => bV (f_X5_join N S c0 x3 x4 x2 v123) fun S124 => rV S124))
def f_X5_come_39 (c0 : Nat) (c1 : Nat) (N : Nat) (x2 : Int) (x3 : Int) (y0 : Int) (S : S2) : Option (S2) := cI x3 (-1) (if x3 = (-1) then cI y0 (-1) (if y0 = (-1) then aI S (c1 + 1) 48 x2 fun v59 => bV (f_X5_begin N S c0 x2 v59) fun S60 => rV S60 else (f_X5_come_66 c0 c1 N) x2 x3 y0 S) else (f_X5_come_66 c0 c1 N) x2 x3 y0 S)
def f_X5_come_16 (c0 : Nat) (c1 : Nat) (N : Nat) (x2 : Int) (y0 : Int) (S : S2) : Option (S2) := gI S c1 1 fun v21 => cI (x2 + 1) v21 (if v21 ≤ (x2 + 1) then (f_X5_come_39 c0 c1 N) x2 y0 (-1) S else aI S (c0 + 2) 48 (x2 + 1) fun v34 => (f_X5_come_39 c0 c1 N) x2 y0 v34 S)
def f_X5_come (N : Nat) (S : S2) (c0 : Nat) (c1 : Nat) (a2 : Int) : Option (S2) := cI a2 0 (if a2 ≤ 0 then (f_X5_come_16 c0 c1 N) a2 (-1) S else aI S (c0 + 2) 48 (a2 - 1) fun v11 => (f_X5_come_16 c0 c1 N) a2 v11 S)
abbrev rmX5_come : Room := { frames := 2, cells := 0, slots := 0, locals := 47 }
theorem hd_X5_come : yX5_come.cls ≠ "java/lang/invoke/MethodHandle" ∧ yX5_come.cls ≠ "java/lang/invoke/VarHandle" ∧ (parseMethodDescriptor yX5_come.desc).map (fun d => d.parameters.length) = some 2 := by decide +kernel
set_option maxRecDepth 100000 in
set_option maxHeartbeats 4000000 in
theorem w_X5_come_66 {p : Program} (l : Launch) {e : Env} {s : State} {m : MethodId} {args : Array Value} {below : List Frame} {meth : Method} {c : Code} {X : XT} (hinj : XInj X nC) (hZ : ZOK (Zc X)) (C : CX p s m args meth c cX5_come 5 RX5 none X nC (Zc X)) (out : S2) (c0 : Nat) (c1 : Nat) (i0 : Is5 c0) (i1 : Is0 c1) : ∀ (N : Nat), ∀ (x2 : Int) (x3 : Int) (x4 : Int) (S : S2) (H : Heap) (locs : List Loc) (ls : Array Slot), f_X5_come_66 c0 c1 N x2 x3 x4 S = some out → WH X shC nC s S H locs → lv_has ls 5 [(0, .ref (X.2.2 c0)), (1, .ref (X.2.2 c1)), (2, .int (iz x2)), (3, .int (iz x3)), (4, .int (iz x4))] → W p l e rmX5_come s m args below meth c H locs 0 0 (QV X shC nC s args below out) (F0 m 66 ls []) := by
  intro N x2 x3 x4 S H locs ls hf hw hl
  unfold f_X5_come_66 at hf
  refine lv_iload C.1.1 C.1.2.1 dX5_come_66 (lv_at hl 4 rfl) ?_
  refine r_iconst (v := (-1)) C dX5_come_68 ?_
  refine r_icmp_ne C (tgt := 89) dX5_come_69 (by decide) hf (fun hf => ?_) (fun hf => ?_)
  · refine lv_iload_n C.1.1 C.1.2.1 dX5_come_89 rfl (lv_at hl 3 rfl) ?_
    refine r_iconst (v := (-1)) C dX5_come_90 ?_
    refine r_icmp_ne C (tgt := 113) dX5_come_91 (by decide) hf (fun hf => ?_) (fun hf => ?_)
    · refine lv_aload_n C.1.1 C.1.2.1 dX5_come_113 rfl (lv_at hl 0 rfl) ?_
      refine lv_iload_n C.1.1 C.1.2.1 dX5_come_114 rfl (lv_at hl 3 rfl) ?_
      refine lv_iload C.1.1 C.1.2.1 dX5_come_115 (lv_at hl 4 rfl) ?_
      refine lv_iload_n C.1.1 C.1.2.1 dX5_come_117 rfl (lv_at hl 2 rfl) ?_
      refine lv_aload_n C.1.1 C.1.2.1 dX5_come_118 rfl (lv_at hl 1 rfl) ?_
      refine r_getR (k := 0) C hw (is0_s i1) (is0_l i1) cO0 rfl (by decide) tw1_86 rfl dX5_come_119 ?_
      refine lv_iload_n C.1.1 C.1.2.1 dX5_come_122 rfl (lv_at hl 2 rfl) ?_
      refine r_iald C hw (is0_s1 i1) (is0_l1 i1) (Nat.le_of_ble_eq_true rfl) dX5_come_123 hf (fun v123 hf => ?_)
      refine r_callV (As := [.int (iz x3), .int (iz x4), .int (iz x2), .int (iz v123)]) (rest := []) (rm := rmX5_join) C hw (is5_s i0) (is5_l i0) cO5 tw3_78 tw3_80 tp_17 tw1_5 tw3_81 hd_X5_join rfl ⟨⟨rfl, rfl⟩, Nat.le_of_ble_eq_true rfl, Nat.le_of_ble_eq_true rfl⟩ hl.1 rfl (Nat.le_of_ble_eq_true rfl) dX5_come_124 hf (fun o ho => c_X5_join l X hinj hZ N S c0 x3 x4 x2 v123 i0 o ho) (fun S124 H locs hf hw => ?_)
      exact r_retV C hw dX5_come_127 hf
    · refine lv_aload_n C.1.1 C.1.2.1 dX5_come_94 rfl (lv_at hl 0 rfl) ?_
      refine r_getR (k := 4) C hw (is5_s i0) (is5_l i0) cO5 rfl (by decide) tw1_118 rfl dX5_come_95 ?_
      refine lv_iload C.1.1 C.1.2.1 dX5_come_98 (lv_at hl 4 rfl) ?_
      refine lv_iload_n C.1.1 C.1.2.1 dX5_come_100 rfl (lv_at hl 2 rfl) ?_
      refine r_iast C hw (is5_s3 i0) (is5_l3 i0) (Nat.le_of_ble_eq_true rfl) dX5_come_101 hf (fun S101 H locs hf hw => ?_)
      refine lv_aload_n C.1.1 C.1.2.1 dX5_come_102 rfl (lv_at hl 0 rfl) ?_
      refine r_getR (k := 3) C hw (is5_s i0) (is5_l i0) cO5 rfl (by decide) tw1_117 rfl dX5_come_103 ?_
      refine lv_iload_n C.1.1 C.1.2.1 dX5_come_106 rfl (lv_at hl 2 rfl) ?_
      refine lv_iload C.1.1 C.1.2.1 dX5_come_107 (lv_at hl 4 rfl) ?_
      refine r_iast C hw (is5_s2 i0) (is5_l2 i0) (Nat.le_of_ble_eq_true rfl) dX5_come_109 hf (fun S109 H locs hf hw => ?_)
      refine lv_goto (tgt := 127) C.1.1 C.1.2.1 dX5_come_110 (by decide) ?_
      exact r_retV C hw dX5_come_127 hf
  · refine lv_aload_n C.1.1 C.1.2.1 dX5_come_72 rfl (lv_at hl 0 rfl) ?_
    refine r_getR (k := 5) C hw (is5_s i0) (is5_l i0) cO5 rfl (by decide) tw1_119 rfl dX5_come_73 ?_
    refine lv_iload_n C.1.1 C.1.2.1 dX5_come_76 rfl (lv_at hl 3 rfl) ?_
    refine lv_iload_n C.1.1 C.1.2.1 dX5_come_77 rfl (lv_at hl 2 rfl) ?_
    refine r_iast C hw (is5_s4 i0) (is5_l4 i0) (Nat.le_of_ble_eq_true rfl) dX5_come_78 hf (fun S78 H locs hf hw => ?_)
    refine lv_aload_n C.1.1 C.1.2.1 dX5_come_79 rfl (lv_at hl 0 rfl) ?_
    refine r_getR (k := 3) C hw (is5_s i0) (is5_l i0) cO5 rfl (by decide) tw1_117 rfl dX5_come_80 ?_
    refine lv_iload_n C.1.1 C.1.2.1 dX5_come_83 rfl (lv_at hl 2 rfl) ?_
    refine lv_iload_n C.1.1 C.1.2.1 dX5_come_84 rfl (lv_at hl 3 rfl) ?_
    refine r_iast C hw (is5_s2 i0) (is5_l2 i0) (Nat.le_of_ble_eq_true rfl) dX5_come_85 hf (fun S85 H locs hf hw => ?_)
    refine lv_goto (tgt := 127) C.1.1 C.1.2.1 dX5_come_86 (by decide) ?_
    exact r_retV C hw dX5_come_127 hf
set_option maxRecDepth 100000 in
set_option maxHeartbeats 4000000 in
theorem w_X5_come_39 {p : Program} (l : Launch) {e : Env} {s : State} {m : MethodId} {args : Array Value} {below : List Frame} {meth : Method} {c : Code} {X : XT} (hinj : XInj X nC) (hZ : ZOK (Zc X)) (C : CX p s m args meth c cX5_come 5 RX5 none X nC (Zc X)) (out : S2) (c0 : Nat) (c1 : Nat) (i0 : Is5 c0) (i1 : Is0 c1) : ∀ (N : Nat), ∀ (x2 : Int) (x3 : Int) (y0 : Int) (S : S2) (H : Heap) (locs : List Loc) (ls : Array Slot), f_X5_come_39 c0 c1 N x2 x3 y0 S = some out → WH X shC nC s S H locs → lv_has ls 5 [(0, .ref (X.2.2 c0)), (1, .ref (X.2.2 c1)), (2, .int (iz x2)), (3, .int (iz x3))] → W p l e rmX5_come s m args below meth c H locs 0 0 (QV X shC nC s args below out) (F0 m 39 ls [.int (iz y0)]) := by
  intro N x2 x3 y0 S H locs ls hf hw hl
  unfold f_X5_come_39 at hf
  refine lv_istore (lv' := [(4, .int (iz y0)), (0, .ref (X.2.2 c0)), (1, .ref (X.2.2 c1)), (2, .int (iz x2)), (3, .int (iz x3))]) C.1.1 C.1.2.1 dX5_come_39 hl (by decide) rfl (fun ls hl => ?_)
  refine lv_iload_n C.1.1 C.1.2.1 dX5_come_41 rfl (lv_at hl 4 rfl) ?_
  refine r_iconst (v := (-1)) C dX5_come_42 ?_
  refine r_icmp_ne C (tgt := 66) dX5_come_43 (by decide) hf (fun hf => ?_) (fun hf => ?_)
  · exact (w_X5_come_66 l hinj hZ C out c0 c1 i0 i1 N) x2 x3 y0 S H locs ls hf hw (lv_sub hl [1, 2, 3, 4, 0] rfl)
  · refine lv_iload C.1.1 C.1.2.1 dX5_come_46 (lv_at hl 0 rfl) ?_
    refine r_iconst (v := (-1)) C dX5_come_48 ?_
    refine r_icmp_ne C (tgt := 66) dX5_come_49 (by decide) hf (fun hf => ?_) (fun hf => ?_)
    · exact (w_X5_come_66 l hinj hZ C out c0 c1 i0 i1 N) x2 x3 y0 S H locs ls hf hw (lv_sub hl [1, 2, 3, 4, 0] rfl)
    · refine lv_aload_n C.1.1 C.1.2.1 dX5_come_52 rfl (lv_at hl 1 rfl) ?_
      refine lv_iload_n C.1.1 C.1.2.1 dX5_come_53 rfl (lv_at hl 3 rfl) ?_
      refine lv_aload_n C.1.1 C.1.2.1 dX5_come_54 rfl (lv_at hl 2 rfl) ?_
      refine r_getR (k := 0) C hw (is0_s i1) (is0_l i1) cO0 rfl (by decide) tw1_86 rfl dX5_come_55 ?_
      refine lv_iload_n C.1.1 C.1.2.1 dX5_come_58 rfl (lv_at hl 3 rfl) ?_
      refine r_iald C hw (is0_s1 i1) (is0_l1 i1) (Nat.le_of_ble_eq_true rfl) dX5_come_59 hf (fun v59 hf => ?_)
      refine r_callV (As := [.int (iz x2), .int (iz v59)]) (rest := []) (rm := rmX5_begin) C hw (is5_s i0) (is5_l i0) cO5 tw3_74 tw3_76 tp_16 tw1_5 tw3_77 hd_X5_begin rfl ⟨⟨rfl, rfl⟩, Nat.le_of_ble_eq_true rfl, Nat.le_of_ble_eq_true rfl⟩ hl.1 rfl (Nat.le_of_ble_eq_true rfl) dX5_come_60 hf (fun o ho => c_X5_begin l X hinj hZ N S c0 x2 v59 i0 o ho) (fun S60 H locs hf hw => ?_)
      refine lv_goto (tgt := 127) C.1.1 C.1.2.1 dX5_come_63 (by decide) ?_
      exact r_retV C hw dX5_come_127 hf
set_option maxRecDepth 100000 in
set_option maxHeartbeats 4000000 in
theorem w_X5_come_16 {p : Program} (l : Launch) {e : Env} {s : State} {m : MethodId} {args : Array Value} {below : List Frame} {meth : Method} {c : Code} {X : XT} (hinj : XInj X nC) (hZ : ZOK (Zc X)) (C : CX p s m args meth c cX5_come 5 RX5 none X nC (Zc X)) (out : S2) (c0 : Nat) (c1 : Nat) (i0 : Is5 c0) (i1 : Is0 c1) : ∀ (N : Nat), ∀ (x2 : Int) (y0 : Int) (S : S2) (H : Heap) (locs : List Loc) (ls : Array Slot), f_X5_come_16 c0 c1 N x2 y0 S = some out → WH X shC nC s S H locs → lv_has ls 5 [(0, .ref (X.2.2 c0)), (1, .ref (X.2.2 c1)), (2, .int (iz x2))] → W p l e rmX5_come s m args below meth c H locs 0 0 (QV X shC nC s args below out) (F0 m 16 ls [.int (iz y0)]) := by
  intro N x2 y0 S H locs ls hf hw hl
  unfold f_X5_come_16 at hf
  refine lv_istore_n (lv' := [(3, .int (iz y0)), (0, .ref (X.2.2 c0)), (1, .ref (X.2.2 c1)), (2, .int (iz x2))]) C.1.1 C.1.2.1 dX5_come_16 rfl hl (by decide) rfl (fun ls hl => ?_)
  refine lv_iload_n C.1.1 C.1.2.1 dX5_come_17 rfl (lv_at hl 3 rfl) ?_
  refine r_iconst (v := 1) C dX5_come_18 ?_
  refine r_iadd C dX5_come_19 ?_
  refine lv_aload_n C.1.1 C.1.2.1 dX5_come_20 rfl (lv_at hl 2 rfl) ?_
  refine r_getI (k := 1) C hw (is0_s i1) (is0_l i1) cO0 rfl (by decide) tw1_91 rfl dX5_come_21 hf (fun v21 hf => ?_)
  refine r_icmp_ge C (tgt := 38) dX5_come_24 (by decide) hf (fun hf => ?_) (fun hf => ?_)
  · refine r_iconst (v := (-1)) C dX5_come_38 ?_
    exact (w_X5_come_39 l hinj hZ C out c0 c1 i0 i1 N) x2 y0 (-1) S H locs ls hf hw (lv_sub hl [1, 2, 3, 0] rfl)
  · refine lv_aload_n C.1.1 C.1.2.1 dX5_come_27 rfl (lv_at hl 1 rfl) ?_
    refine r_getR (k := 3) C hw (is5_s i0) (is5_l i0) cO5 rfl (by decide) tw1_117 rfl dX5_come_28 ?_
    refine lv_iload_n C.1.1 C.1.2.1 dX5_come_31 rfl (lv_at hl 3 rfl) ?_
    refine r_iconst (v := 1) C dX5_come_32 ?_
    refine r_iadd C dX5_come_33 ?_
    refine r_iald C hw (is5_s2 i0) (is5_l2 i0) (Nat.le_of_ble_eq_true rfl) dX5_come_34 hf (fun v34 hf => ?_)
    refine lv_goto (tgt := 39) C.1.1 C.1.2.1 dX5_come_35 (by decide) ?_
    exact (w_X5_come_39 l hinj hZ C out c0 c1 i0 i1 N) x2 y0 v34 S H locs ls hf hw (lv_sub hl [1, 2, 3, 0] rfl)
set_option maxRecDepth 100000 in
set_option maxHeartbeats 4000000 in
theorem c_X5_come (l : Launch) (X : XT) (hinj : XInj X nC) (hZ : ZOK (Zc X)) (N : Nat) (S : S2) (c0 : Nat) (c1 : Nat) (a2 : Int) (i0 : Is5 c0) (i1 : Is0 c1) (out : S2) (hf : f_X5_come N S c0 c1 a2 = some out) : MV l X shC nC (Zc X) yX5_come cX5_come 5 none rmX5_come [.ref (X.2.2 c0), .ref (X.2.2 c1), .int (iz a2)] S out := by
  refine met_V (own := RX5) (by decide) rfl hinj hZ (Nat.le_of_ble_eq_true rfl) (fun p e s m args below meth c C ls H locs hw hl => ?_)
  unfold f_X5_come at hf
  have hl : lv_has ls 5 [(0, .ref (X.2.2 c0)), (1, .ref (X.2.2 c1)), (2, .int (iz a2))] := hl
  refine lv_iload_n C.1.1 C.1.2.1 dX5_come_0 rfl (lv_at hl 2 rfl) ?_
  refine r_if_le C (tgt := 15) dX5_come_1 (by decide) hf (fun hf => ?_) (fun hf => ?_)
  · refine r_iconst (v := (-1)) C dX5_come_15 ?_
    exact (w_X5_come_16 l hinj hZ C out c0 c1 i0 i1 N) a2 (-1) S H locs ls hf hw (lv_sub hl [0, 1, 2] rfl)
  · refine lv_aload_n C.1.1 C.1.2.1 dX5_come_4 rfl (lv_at hl 0 rfl) ?_
    refine r_getR (k := 3) C hw (is5_s i0) (is5_l i0) cO5 rfl (by decide) tw1_117 rfl dX5_come_5 ?_
    refine lv_iload_n C.1.1 C.1.2.1 dX5_come_8 rfl (lv_at hl 2 rfl) ?_
    refine r_iconst (v := 1) C dX5_come_9 ?_
    refine r_isub C dX5_come_10 ?_
    refine r_iald C hw (is5_s2 i0) (is5_l2 i0) (Nat.le_of_ble_eq_true rfl) dX5_come_11 hf (fun v11 hf => ?_)
    refine lv_goto (tgt := 16) C.1.1 C.1.2.1 dX5_come_12 (by decide) ?_
    exact (w_X5_come_16 l hinj hZ C out c0 c1 i0 i1 N) a2 v11 S H locs ls hf hw (lv_sub hl [0, 1, 2] rfl)
def f_X5_giveNumbers_75 (c0 : Nat) : Nat → Int → S2 → Option (S2)
  | 0, _, _ => none
  | N + 1, x1, S => gI S c0 0 fun v77 => cI x1 v77 (if v77 ≤ x1 then rV S else aI S (c0 + 11) 48 x1 fun v92 => sI S (c0 + 12) 48 v92 x1 fun S94 => (f_X5_giveNumbers_75 c0 N) (x1 + 1) S94)
def f_X5_giveNumbers_73 (c0 : Nat) (N : Nat) (S : S2) : Option (S2) := (f_X5_giveNumbers_75 c0 N) 0 S
def f_X5_giveNumbers_60 (c0 : Nat) (k9 : Int → S2 → Option (S2)) (N : Nat) (x1 : Int) (x2 : Int) (S : S2) : Option (S2) := sI S (c0 + 11) 48 x2 x1 fun S66 => k9 (x1 + 1) S66
def f_X5_giveNumbers_19 (c0 : Nat) (k60 : Int → Int → S2 → Option (S2)) : Nat → Int → Int → S2 → Option (S2)
  | 0, _, _, _ => none
  | N + 1, x1, x2, S => cI x2 1 (if x2 ≤ 1 then k60 x1 x2 S else aI S (c0 + 11) 48 (x2 - 1) fun v33 => bI (f_X5_isAhead N S c0 x1 v33) fun v34 S34 => cI v34 0 (if v34 = 0 then k60 x1 x2 S34 else aI S34 (c0 + 11) 48 (x2 - 1) fun v52 => sI S34 (c0 + 11) 48 x2 v52 fun S53 => (f_X5_giveNumbers_19 c0 k60 N) x1 (x2 + (-1)) S53))
def f_X5_giveNumbers_9 (c0 : Nat) (k73 : S2 → Option (S2)) : Nat → Int → S2 → Option (S2)
  | 0, _, _ => none
  | N + 1, x1, S => gI S c0 0 fun v11 => cI x1 v11 (if v11 ≤ x1 then k73 S else (f_X5_giveNumbers_19 c0 (f_X5_giveNumbers_60 c0 (f_X5_giveNumbers_9 c0 k73 N) N) N) x1 x1 S)
def f_X5_giveNumbers (N : Nat) (S : S2) (c0 : Nat) : Option (S2) := sI S (c0 + 11) 48 0 0 fun S6 => (f_X5_giveNumbers_9 c0 (f_X5_giveNumbers_73 c0 N) N) 1 S6
abbrev rmX5_giveNumbers : Room := { frames := 1, cells := 0, slots := 0, locals := 23 }
theorem hd_X5_giveNumbers : yX5_giveNumbers.cls ≠ "java/lang/invoke/MethodHandle" ∧ yX5_giveNumbers.cls ≠ "java/lang/invoke/VarHandle" ∧ (parseMethodDescriptor yX5_giveNumbers.desc).map (fun d => d.parameters.length) = some 0 := by decide +kernel
set_option maxRecDepth 100000 in
set_option maxHeartbeats 4000000 in
theorem w_X5_giveNumbers_75 {p : Program} (l : Launch) {e : Env} {s : State} {m : MethodId} {args : Array Value} {below : List Frame} {meth : Method} {c : Code} {X : XT} (hinj : XInj X nC) (hZ : ZOK (Zc X)) (C : CX p s m args meth c cX5_giveNumbers 3 RX5 none X nC (Zc X)) (out : S2) (c0 : Nat) (i0 : Is5 c0) : ∀ (N : Nat), ∀ (x1 : Int) (S : S2) (H : Heap) (locs : List Loc) (ls : Array Slot), f_X5_giveNumbers_75 c0 N x1 S = some out → WH X shC nC s S H locs → lv_has ls 3 [(0, .ref (X.2.2 c0)), (1, .int (iz x1))] → W p l e rmX5_giveNumbers s m args below meth c H locs 0 0 (QV X shC nC s args below out) (F0 m 75 ls []) := by
  intro N
  induction N with
  | zero => intro x1 S H locs ls hf hw hl; cases hf
  | succ N ih =>
    intro x1 S H locs ls hf hw hl
    rw [f_X5_giveNumbers_75.eq_2] at hf
    refine lv_iload_n C.1.1 C.1.2.1 dX5_giveNumbers_75 rfl (lv_at hl 1 rfl) ?_
    refine lv_aload_n C.1.1 C.1.2.1 dX5_giveNumbers_76 rfl (lv_at hl 0 rfl) ?_
    refine r_getI (k := 0) C hw (is5_s i0) (is5_l i0) cO5 rfl (by decide) tw1_111 rfl dX5_giveNumbers_77 hf (fun v77 hf => ?_)
    refine r_icmp_ge C (tgt := 101) dX5_giveNumbers_80 (by decide) hf (fun hf => ?_) (fun hf => ?_)
    · exact r_retV C hw dX5_giveNumbers_101 hf
    · refine lv_aload_n C.1.1 C.1.2.1 dX5_giveNumbers_83 rfl (lv_at hl 0 rfl) ?_
      refine r_getR (k := 13) C hw (is5_s i0) (is5_l i0) cO5 rfl (by decide) tw1_127 rfl dX5_giveNumbers_84 ?_
      refine lv_aload_n C.1.1 C.1.2.1 dX5_giveNumbers_87 rfl (lv_at hl 0 rfl) ?_
      refine r_getR (k := 12) C hw (is5_s i0) (is5_l i0) cO5 rfl (by decide) tw1_126 rfl dX5_giveNumbers_88 ?_
      refine lv_iload_n C.1.1 C.1.2.1 dX5_giveNumbers_91 rfl (lv_at hl 1 rfl) ?_
      refine r_iald C hw (is5_s11 i0) (is5_l11 i0) (Nat.le_of_ble_eq_true rfl) dX5_giveNumbers_92 hf (fun v92 hf => ?_)
      refine lv_iload_n C.1.1 C.1.2.1 dX5_giveNumbers_93 rfl (lv_at hl 1 rfl) ?_
      refine r_iast C hw (is5_s12 i0) (is5_l12 i0) (Nat.le_of_ble_eq_true rfl) dX5_giveNumbers_94 hf (fun S94 H locs hf hw => ?_)
      refine lv_iinc (v := iz (x1 + 1)) (lv' := [(1, .int (iz (x1 + 1))), (0, .ref (X.2.2 c0))]) C.1.1 C.1.2.1 dX5_giveNumbers_95 hl (k := 1) rfl (iz_add _ _) (by decide) rfl (fun ls hl => ?_)
      refine lv_goto (tgt := 75) C.1.1 C.1.2.1 dX5_giveNumbers_98 (by decide) ?_
      exact ih (x1 + 1) S94 H locs ls hf hw (lv_sub hl [1, 0] rfl)
set_option maxRecDepth 100000 in
set_option maxHeartbeats 4000000 in
theorem w_X5_giveNumbers_73 {p : Program} (l : Launch) {e : Env} {s : State} {m : MethodId} {args : Array Value} {below : List Frame} {meth : Method} {c : Code} {X : XT} (hinj : XInj X nC) (hZ : ZOK (Zc X)) (C : CX p s m args meth c cX5_giveNumbers 3 RX5 none X nC (Zc X)) (out : S2) (c0 : Nat) (i0 : Is5 c0) : ∀ (N : Nat), ∀ (S : S2) (H : Heap) (locs : List Loc) (ls : Array Slot), f_X5_giveNumbers_73 c0 N S = some out → WH X shC nC s S H locs → lv_has ls 3 [(0, .ref (X.2.2 c0))] → W p l e rmX5_giveNumbers s m args below meth c H locs 0 0 (QV X shC nC s args below out) (F0 m 73 ls []) := by
  intro N S H locs ls hf hw hl
  unfold f_X5_giveNumbers_73 at hf
  refine r_iconst (v := 0) C dX5_giveNumbers_73 ?_
  refine lv_istore_n (lv' := [(1, .int (iz 0)), (0, .ref (X.2.2 c0))]) C.1.1 C.1.2.1 dX5_giveNumbers_74 rfl hl (by decide) rfl (fun ls hl => ?_)
  exact (w_X5_giveNumbers_75 l hinj hZ C out c0 i0 N) 0 S H locs ls hf hw (lv_sub hl [1, 0] rfl)
set_option maxRecDepth 100000 in
set_option maxHeartbeats 4000000 in
theorem w_X5_giveNumbers_60 {p : Program} (l : Launch) {e : Env} {s : State} {m : MethodId} {args : Array Value} {below : List Frame} {meth : Method} {c : Code} {X : XT} (hinj : XInj X nC) (hZ : ZOK (Zc X)) (C : CX p s m args meth c cX5_giveNumbers 3 RX5 none X nC (Zc X)) (out : S2) (c0 : Nat) (i0 : Is5 c0) (k9 : Int → S2 → Option (S2)) (hk9 : ∀ (x1 : Int) (S : S2) (H : Heap) (locs : List Loc) (ls : Array Slot), k9 x1 S = some out → WH X shC nC s S H locs → lv_has ls 3 [(0, .ref (X.2.2 c0)), (1, .int (iz x1))] → W p l e rmX5_giveNumbers s m args below meth c H locs 0 0 (QV X shC nC s args below out) (F0 m 9 ls [])) : ∀ (N : Nat), ∀ (x1 : Int) (x2 : Int) (S : S2) (H : Heap) (locs : List Loc) (ls : Array Slot), f_X5_giveNumbers_60 c0 k9 N x1 x2 S = some out → WH X shC nC s S H locs → lv_has ls 3 [(0, .ref (X.2.2 c0)), (1, .int (iz x1)), (2, .int (iz x2))] → W p l e rmX5_giveNumbers s m args below meth c H locs 0 0 (QV X shC nC s args below out) (F0 m 60 ls []) := by
  intro N x1 x2 S H locs ls hf hw hl
  unfold f_X5_giveNumbers_60 at hf
  refine lv_aload_n C.1.1 C.1.2.1 dX5_giveNumbers_60 rfl (lv_at hl 0 rfl) ?_
  refine r_getR (k := 12) C hw (is5_s i0) (is5_l i0) cO5 rfl (by decide) tw1_126 rfl dX5_giveNumbers_61 ?_
  refine lv_iload_n C.1.1 C.1.2.1 dX5_giveNumbers_64 rfl (lv_at hl 2 rfl) ?_
  refine lv_iload_n C.1.1 C.1.2.1 dX5_giveNumbers_65 rfl (lv_at hl 1 rfl) ?_
  refine r_iast C hw (is5_s11 i0) (is5_l11 i0) (Nat.le_of_ble_eq_true rfl) dX5_giveNumbers_66 hf (fun S66 H locs hf hw => ?_)
  refine lv_iinc (v := iz (x1 + 1)) (lv' := [(1, .int (iz (x1 + 1))), (0, .ref (X.2.2 c0)), (2, .int (iz x2))]) C.1.1 C.1.2.1 dX5_giveNumbers_67 hl (k := 1) rfl (iz_add _ _) (by decide) rfl (fun ls hl => ?_)
  refine lv_goto (tgt := 9) C.1.1 C.1.2.1 dX5_giveNumbers_70 (by decide) ?_
  exact hk9 (x1 + 1) S66 H locs ls hf hw (lv_sub hl [1, 0] rfl)
set_option maxRecDepth 100000 in
set_option maxHeartbeats 4000000 in
theorem w_X5_giveNumbers_19 {p : Program} (l : Launch) {e : Env} {s : State} {m : MethodId} {args : Array Value} {below : List Frame} {meth : Method} {c : Code} {X : XT} (hinj : XInj X nC) (hZ : ZOK (Zc X)) (C : CX p s m args meth c cX5_giveNumbers 3 RX5 none X nC (Zc X)) (out : S2) (c0 : Nat) (i0 : Is5 c0) (k60 : Int → Int → S2 → Option (S2)) (hk60 : ∀ (x1 : Int) (x2 : Int) (S : S2) (H : Heap) (locs : List Loc) (ls : Array Slot), k60 x1 x2 S = some out → WH X shC nC s S H locs → lv_has ls 3 [(0, .ref (X.2.2 c0)), (1, .int (iz x1)), (2, .int (iz x2))] → W p l e rmX5_giveNumbers s m args below meth c H locs 0 0 (QV X shC nC s args below out) (F0 m 60 ls [])) : ∀ (N : Nat), ∀ (x1 : Int) (x2 : Int) (S : S2) (H : Heap) (locs : List Loc) (ls : Array Slot), f_X5_giveNumbers_19 c0 k60 N x1 x2 S = some out → WH X shC nC s S H locs → lv_has ls 3 [(0, .ref (X.2.2 c0)), (1, .int (iz x1)), (2, .int (iz x2))] → W p l e rmX5_giveNumbers s m args below meth c H locs 0 0 (QV X shC nC s args below out) (F0 m 19 ls []) := by
  intro N
  induction N with
  | zero => intro x1 x2 S H locs ls hf hw hl; cases hf
  | succ N ih =>
    intro x1 x2 S H locs ls hf hw hl
    rw [f_X5_giveNumbers_19.eq_2] at hf
    refine lv_iload_n C.1.1 C.1.2.1 dX5_giveNumbers_19 rfl (lv_at hl 2 rfl) ?_
    refine r_iconst (v := 1) C dX5_giveNumbers_20 ?_
    refine r_icmp_le C (tgt := 60) dX5_giveNumbers_21 (by decide) hf (fun hf => ?_) (fun hf => ?_)
    · exact hk60 x1 x2 S H locs ls hf hw (lv_sub hl [0, 1, 2] rfl)
    · refine lv_aload_n C.1.1 C.1.2.1 dX5_giveNumbers_24 rfl (lv_at hl 0 rfl) ?_
      refine lv_iload_n C.1.1 C.1.2.1 dX5_giveNumbers_25 rfl (lv_at hl 1 rfl) ?_
      refine lv_aload_n C.1.1 C.1.2.1 dX5_giveNumbers_26 rfl (lv_at hl 0 rfl) ?_
      refine r_getR (k := 12) C hw (is5_s i0) (is5_l i0) cO5 rfl (by decide) tw1_126 rfl dX5_giveNumbers_27 ?_
      refine lv_iload_n C.1.1 C.1.2.1 dX5_giveNumbers_30 rfl (lv_at hl 2 rfl) ?_
      refine r_iconst (v := 1) C dX5_giveNumbers_31 ?_
      refine r_isub C dX5_giveNumbers_32 ?_
      refine r_iald C hw (is5_s11 i0) (is5_l11 i0) (Nat.le_of_ble_eq_true rfl) dX5_giveNumbers_33 hf (fun v33 hf => ?_)
      refine r_callI (As := [.int (iz x1), .int (iz v33)]) (rest := []) (rm := rmX5_isAhead) C hw (is5_s i0) (is5_l i0) cO5 tw3_96 tw3_98 tp_20 tw1_5 tw3_99 hd_X5_isAhead rfl ⟨⟨rfl, rfl⟩, Nat.le_of_ble_eq_true rfl, Nat.le_of_ble_eq_true rfl⟩ hl.1 rfl (Nat.le_of_ble_eq_true rfl) dX5_giveNumbers_34 hf (fun o ho => c_X5_isAhead l X hinj hZ N S c0 x1 v33 i0 o ho) (fun v34 S34 H locs hf hw => ?_)
      refine r_if_eq C (tgt := 60) dX5_giveNumbers_37 (by decide) hf (fun hf => ?_) (fun hf => ?_)
      · exact hk60 x1 x2 S34 H locs ls hf hw (lv_sub hl [0, 1, 2] rfl)
      · refine lv_aload_n C.1.1 C.1.2.1 dX5_giveNumbers_40 rfl (lv_at hl 0 rfl) ?_
        refine r_getR (k := 12) C hw (is5_s i0) (is5_l i0) cO5 rfl (by decide) tw1_126 rfl dX5_giveNumbers_41 ?_
        refine lv_iload_n C.1.1 C.1.2.1 dX5_giveNumbers_44 rfl (lv_at hl 2 rfl) ?_
        refine lv_aload_n C.1.1 C.1.2.1 dX5_giveNumbers_45 rfl (lv_at hl 0 rfl) ?_
        refine r_getR (k := 12) C hw (is5_s i0) (is5_l i0) cO5 rfl (by decide) tw1_126 rfl dX5_giveNumbers_46 ?_
        refine lv_iload_n C.1.1 C.1.2.1 dX5_giveNumbers_49 rfl (lv_at hl 2 rfl) ?_
        refine r_iconst (v := 1) C dX5_giveNumbers_50 ?_
        refine r_isub C dX5_giveNumbers_51 ?_
        refine r_iald C hw (is5_s11 i0) (is5_l11 i0) (Nat.le_of_ble_eq_true rfl) dX5_giveNumbers_52 hf (fun v52 hf => ?_)
        refine r_iast C hw (is5_s11 i0) (is5_l11 i0) (Nat.le_of_ble_eq_true rfl) dX5_giveNumbers_53 hf (fun S53 H locs hf hw => ?_)
        refine lv_iinc (v := iz (x2 + (-1))) (lv' := [(2, .int (iz (x2 + (-1)))), (0, .ref (X.2.2 c0)), (1, .int (iz x1))]) C.1.1 C.1.2.1 dX5_giveNumbers_54 hl (k := 2) rfl (iz_add _ _) (by decide) rfl (fun ls hl => ?_)
        refine lv_goto (tgt := 19) C.1.1 C.1.2.1 dX5_giveNumbers_57 (by decide) ?_
        exact ih x1 (x2 + (-1)) S53 H locs ls hf hw (lv_sub hl [1, 2, 0] rfl)
set_option maxRecDepth 100000 in
set_option maxHeartbeats 4000000 in
theorem w_X5_giveNumbers_9 {p : Program} (l : Launch) {e : Env} {s : State} {m : MethodId} {args : Array Value} {below : List Frame} {meth : Method} {c : Code} {X : XT} (hinj : XInj X nC) (hZ : ZOK (Zc X)) (C : CX p s m args meth c cX5_giveNumbers 3 RX5 none X nC (Zc X)) (out : S2) (c0 : Nat) (i0 : Is5 c0) (k73 : S2 → Option (S2)) (hk73 : ∀ (S : S2) (H : Heap) (locs : List Loc) (ls : Array Slot), k73 S = some out → WH X shC nC s S H locs → lv_has ls 3 [(0, .ref (X.2.2 c0))] → W p l e rmX5_giveNumbers s m args below meth c H locs 0 0 (QV X shC nC s args below out) (F0 m 73 ls [])) : ∀ (N : Nat), ∀ (x1 : Int) (S : S2) (H : Heap) (locs : List Loc) (ls : Array Slot), f_X5_giveNumbers_9 c0 k73 N x1 S = some out → WH X shC nC s S H locs → lv_has ls 3 [(0, .ref (X.2.2 c0)), (1, .int (iz x1))] → W p l e rmX5_giveNumbers s m args below meth c H locs 0 0 (QV X shC nC s args below out) (F0 m 9 ls []) := by
  intro N
  induction N with
  | zero => intro x1 S H locs ls hf hw hl; cases hf
  | succ N ih =>
    intro x1 S H locs ls hf hw hl
    rw [f_X5_giveNumbers_9.eq_2] at hf
    refine lv_iload_n C.1.1 C.1.2.1 dX5_giveNumbers_9 rfl (lv_at hl 1 rfl) ?_
    refine lv_aload_n C.1.1 C.1.2.1 dX5_giveNumbers_10 rfl (lv_at hl 0 rfl) ?_
    refine r_getI (k := 0) C hw (is5_s i0) (is5_l i0) cO5 rfl (by decide) tw1_111 rfl dX5_giveNumbers_11 hf (fun v11 hf => ?_)
    refine r_icmp_ge C (tgt := 73) dX5_giveNumbers_14 (by decide) hf (fun hf => ?_) (fun hf => ?_)
    · exact hk73 S H locs ls hf hw (lv_sub hl [0] rfl)
    · refine lv_iload_n C.1.1 C.1.2.1 dX5_giveNumbers_17 rfl (lv_at hl 1 rfl) ?_
      refine lv_istore_n (lv' := [(2, .int (iz x1)), (0, .ref (X.2.2 c0)), (1, .int (iz x1))]) C.1.1 C.1.2.1 dX5_giveNumbers_18 rfl hl (by decide) rfl (fun ls hl => ?_)
      exact (w_X5_giveNumbers_19 l hinj hZ C out c0 i0 (f_X5_giveNumbers_60 c0 (f_X5_giveNumbers_9 c0 k73 N) N) (w_X5_giveNumbers_60 l hinj hZ C out c0 i0 (f_X5_giveNumbers_9 c0 k73 N) ih N) N) x1 x1 S H locs ls hf hw (lv_sub hl [1, 2, 0] rfl)
set_option maxRecDepth 100000 in
set_option maxHeartbeats 4000000 in
theorem c_X5_giveNumbers (l : Launch) (X : XT) (hinj : XInj X nC) (hZ : ZOK (Zc X)) (N : Nat) (S : S2) (c0 : Nat) (i0 : Is5 c0) (out : S2) (hf : f_X5_giveNumbers N S c0 = some out) : MV l X shC nC (Zc X) yX5_giveNumbers cX5_giveNumbers 3 none rmX5_giveNumbers [.ref (X.2.2 c0)] S out := by
  refine met_V (own := RX5) (by decide) rfl hinj hZ (Nat.le_of_ble_eq_true rfl) (fun p e s m args below meth c C ls H locs hw hl => ?_)
  unfold f_X5_giveNumbers at hf
  have hl : lv_has ls 3 [(0, .ref (X.2.2 c0))] := hl
  refine lv_aload_n C.1.1 C.1.2.1 dX5_giveNumbers_0 rfl (lv_at hl 0 rfl) ?_
  refine r_getR (k := 12) C hw (is5_s i0) (is5_l i0) cO5 rfl (by decide) tw1_126 rfl dX5_giveNumbers_1 ?_
  refine r_iconst (v := 0) C dX5_giveNumbers_4 ?_
  refine r_iconst (v := 0) C dX5_giveNumbers_5 ?_
  refine r_iast C hw (is5_s11 i0) (is5_l11 i0) (Nat.le_of_ble_eq_true rfl) dX5_giveNumbers_6 hf (fun S6 H locs hf hw => ?_)
  refine r_iconst (v := 1) C dX5_giveNumbers_7 ?_
  refine lv_istore_n (lv' := [(1, .int (iz 1)), (0, .ref (X.2.2 c0))]) C.1.1 C.1.2.1 dX5_giveNumbers_8 rfl hl (by decide) rfl (fun ls hl => ?_)
  exact (w_X5_giveNumbers_9 l hinj hZ C out c0 i0 (f_X5_giveNumbers_73 c0 N) (w_X5_giveNumbers_73 l hinj hZ C out c0 i0 N) N) 1 S6 H locs ls hf hw (lv_sub hl [1, 0] rfl)
def f_X6_skipBlanks_0 (c0 : Nat) : Nat → S2 → Option (S2)
  | 0, _ => none
  | N + 1, S => gI S c0 1 fun v1 => gI S (c0 + 1) 1 fun v8 => cI v1 v8 (if v8 ≤ v1 then rV S else gI S c0 1 fun v19 => bI (f_X9_byteAt N S (c0 + 1) v19) fun v22 S22 => cI v22 32 (if v22 = 32 then gI S22 c0 1 fun v32 => uI S22 c0 1 (v32 + 1) fun S37 => (f_X6_skipBlanks_0 c0 N) S37 else rV S22))
def f_X6_skipBlanks (N : Nat) (S : S2) (c0 : Nat) : Option (S2) := (f_X6_skipBlanks_0 c0 N) S
abbrev rmX6_skipBlanks : Room := { frames := 1, cells := 0, slots := 0, locals := 21 }
theorem hd_X6_skipBlanks : yX6_skipBlanks.cls ≠ "java/lang/invoke/MethodHandle" ∧ yX6_skipBlanks.cls ≠ "java/lang/invoke/VarHandle" ∧ (parseMethodDescriptor yX6_skipBlanks.desc).map (fun d => d.parameters.length) = some 0 := by decide +kernel
set_option maxRecDepth 100000 in
set_option maxHeartbeats 4000000 in
theorem w_X6_skipBlanks_0 {p : Program} (l : Launch) {e : Env} {s : State} {m : MethodId} {args : Array Value} {below : List Frame} {meth : Method} {c : Code} {X : XT} (hinj : XInj X nC) (hZ : ZOK (Zc X)) (C : CX p s m args meth c cX6_skipBlanks 1 RX6 none X nC (Zc X)) (out : S2) (c0 : Nat) (i0 : Is6 c0) : ∀ (N : Nat), ∀ (S : S2) (H : Heap) (locs : List Loc) (ls : Array Slot), f_X6_skipBlanks_0 c0 N S = some out → WH X shC nC s S H locs → lv_has ls 1 [(0, .ref (X.2.2 c0))] → W p l e rmX6_skipBlanks s m args below meth c H locs 0 0 (QV X shC nC s args below out) (F0 m 0 ls []) := by
  intro N
  induction N with
  | zero => intro S H locs ls hf hw hl; cases hf
  | succ N ih =>
    intro S H locs ls hf hw hl
    rw [f_X6_skipBlanks_0.eq_2] at hf
    refine lv_aload_n C.1.1 C.1.2.1 dX6_skipBlanks_0 rfl (lv_at hl 0 rfl) ?_
    refine r_getI (k := 1) C hw (is6_s i0) (is6_l i0) cO6 rfl (by decide) tw1_55 rfl dX6_skipBlanks_1 hf (fun v1 hf => ?_)
    refine lv_aload_n C.1.1 C.1.2.1 dX6_skipBlanks_4 rfl (lv_at hl 0 rfl) ?_
    refine r_getR (k := 0) C hw (is6_s i0) (is6_l i0) cO6 rfl (by decide) tw1_53 rfl dX6_skipBlanks_5 ?_
    refine r_getI (k := 1) C hw (is9_s (is6_o1 i0)) (is9_l (is6_o1 i0)) cO9 rfl (by decide) tw1_46 rfl dX6_skipBlanks_8 hf (fun v8 hf => ?_)
    refine r_icmp_ge C (tgt := 43) dX6_skipBlanks_11 (by decide) hf (fun hf => ?_) (fun hf => ?_)
    · exact r_retV C hw dX6_skipBlanks_43 hf
    · refine lv_aload_n C.1.1 C.1.2.1 dX6_skipBlanks_14 rfl (lv_at hl 0 rfl) ?_
      refine r_getR (k := 0) C hw (is6_s i0) (is6_l i0) cO6 rfl (by decide) tw1_53 rfl dX6_skipBlanks_15 ?_
      refine lv_aload_n C.1.1 C.1.2.1 dX6_skipBlanks_18 rfl (lv_at hl 0 rfl) ?_
      refine r_getI (k := 1) C hw (is6_s i0) (is6_l i0) cO6 rfl (by decide) tw1_55 rfl dX6_skipBlanks_19 hf (fun v19 hf => ?_)
      refine r_callI (As := [.int (iz v19)]) (rest := []) (rm := rmX9_byteAt) C hw (is9_s (is6_o1 i0)) (is9_l (is6_o1 i0)) cO9 tw2_143 tw2_144 tw2_145 tw1_3 tw2_146 hd_X9_byteAt rfl ⟨⟨rfl, rfl⟩, Nat.le_of_ble_eq_true rfl, Nat.le_of_ble_eq_true rfl⟩ hl.1 rfl (Nat.le_of_ble_eq_true rfl) dX6_skipBlanks_22 hf (fun o ho => c_X9_byteAt l X hinj hZ N S (c0 + 1) v19 (is6_o1 i0) o ho) (fun v22 S22 H locs hf hw => ?_)
      refine r_bipush (v := 32) C dX6_skipBlanks_25 (by decide) ?_
      refine r_icmp_ne C (tgt := 43) dX6_skipBlanks_27 (by decide) hf (fun hf => ?_) (fun hf => ?_)
      · exact r_retV C hw dX6_skipBlanks_43 hf
      · refine lv_aload_n C.1.1 C.1.2.1 dX6_skipBlanks_30 rfl (lv_at hl 0 rfl) ?_
        refine lv_dup C.1.1 C.1.2.1 dX6_skipBlanks_31 rfl ?_
        refine r_getI (k := 1) C hw (is6_s i0) (is6_l i0) cO6 rfl (by decide) tw1_55 rfl dX6_skipBlanks_32 hf (fun v32 hf => ?_)
        refine r_iconst (v := 1) C dX6_skipBlanks_35 ?_
        refine r_iadd C dX6_skipBlanks_36 ?_
        refine r_putI (k := 1) C hw (is6_s i0) (is6_l i0) cO6 rfl (by decide) tw1_55 rfl rfl rfl dX6_skipBlanks_37 hf (fun S37 H locs hf hw => ?_)
        refine lv_goto (tgt := 0) C.1.1 C.1.2.1 dX6_skipBlanks_40 (by decide) ?_
        exact ih S37 H locs ls hf hw (lv_sub hl [0] rfl)
set_option maxRecDepth 100000 in
set_option maxHeartbeats 4000000 in
theorem c_X6_skipBlanks (l : Launch) (X : XT) (hinj : XInj X nC) (hZ : ZOK (Zc X)) (N : Nat) (S : S2) (c0 : Nat) (i0 : Is6 c0) (out : S2) (hf : f_X6_skipBlanks N S c0 = some out) : MV l X shC nC (Zc X) yX6_skipBlanks cX6_skipBlanks 1 none rmX6_skipBlanks [.ref (X.2.2 c0)] S out := by
  refine met_V (own := RX6) (by decide) rfl hinj hZ (Nat.le_of_ble_eq_true rfl) (fun p e s m args below meth c C ls H locs hw hl => ?_)
  unfold f_X6_skipBlanks at hf
  have hl : lv_has ls 1 [(0, .ref (X.2.2 c0))] := hl
  exact (w_X6_skipBlanks_0 l hinj hZ C out c0 i0 N) S H locs ls hf hw (lv_sub hl [0] rfl)
def f_X6_readSemicolon_40 (c0 : Nat) (N : Nat) (S : S2) : Option (Int × S2) := gI S c0 1 fun v42 => bI (f_X6_fail N S c0 v42) fun v45 S45 => rZ v45 S45
def f_X6_readSemicolon (N : Nat) (S : S2) (c0 : Nat) (a1 : Int) : Option (Int × S2) := bV (f_X6_skipBlanks N S c0) fun S1 => gI S1 c0 1 fun v5 => gI S1 (c0 + 1) 1 fun v12 => cI v5 v12 (if v5 < v12 then gI S1 c0 1 fun v25 => bI (f_X9_byteAt N S1 (c0 + 1) v25) fun v28 S28 => cI v28 59 (if v28 = 59 then cI a1 0 (if a1 = 0 then (f_X6_readSemicolon_40 c0 N) S28 else gI S28 c0 1 fun v51 => uI S28 c0 1 (v51 + 1) fun S56 => rZ 1 S56) else (f_X6_readSemicolon_40 c0 N) S28) else rZ 0 S1)
abbrev rmX6_readSemicolon : Room := { frames := 2, cells := 0, slots := 0, locals := 41 }
theorem hd_X6_readSemicolon : yX6_readSemicolon.cls ≠ "java/lang/invoke/MethodHandle" ∧ yX6_readSemicolon.cls ≠ "java/lang/invoke/VarHandle" ∧ (parseMethodDescriptor yX6_readSemicolon.desc).map (fun d => d.parameters.length) = some 1 := by decide +kernel
set_option maxRecDepth 100000 in
set_option maxHeartbeats 4000000 in
theorem w_X6_readSemicolon_40 {p : Program} (l : Launch) {e : Env} {s : State} {m : MethodId} {args : Array Value} {below : List Frame} {meth : Method} {c : Code} {X : XT} (hinj : XInj X nC) (hZ : ZOK (Zc X)) (C : CX p s m args meth c cX6_readSemicolon 2 RX6 (some .boolean) X nC (Zc X)) (out : Int × S2) (c0 : Nat) (i0 : Is6 c0) : ∀ (N : Nat), ∀ (S : S2) (H : Heap) (locs : List Loc) (ls : Array Slot), f_X6_readSemicolon_40 c0 N S = some out → WH X shC nC s S H locs → lv_has ls 2 [(0, .ref (X.2.2 c0))] → W p l e rmX6_readSemicolon s m args below meth c H locs 0 0 (QI X shC nC s args below out) (F0 m 40 ls []) := by
  intro N S H locs ls hf hw hl
  unfold f_X6_readSemicolon_40 at hf
  refine lv_aload_n C.1.1 C.1.2.1 dX6_readSemicolon_40 rfl (lv_at hl 0 rfl) ?_
  refine lv_aload_n C.1.1 C.1.2.1 dX6_readSemicolon_41 rfl (lv_at hl 0 rfl) ?_
  refine r_getI (k := 1) C hw (is6_s i0) (is6_l i0) cO6 rfl (by decide) tw1_55 rfl dX6_readSemicolon_42 hf (fun v42 hf => ?_)
  refine r_callI (As := [.int (iz v42)]) (rest := []) (rm := rmX6_fail) C hw (is6_s i0) (is6_l i0) cO6 tw2_152 tw2_154 tp_4 tw1_2 tw2_155 hd_X6_fail rfl ⟨⟨rfl, rfl⟩, Nat.le_of_ble_eq_true rfl, Nat.le_of_ble_eq_true rfl⟩ hl.1 rfl (Nat.le_of_ble_eq_true rfl) dX6_readSemicolon_45 hf (fun o ho => c_X6_fail l X hinj hZ N S c0 v42 i0 o ho) (fun v45 S45 H locs hf hw => ?_)
  exact r_retZ C hw dX6_readSemicolon_48 hf
set_option maxRecDepth 100000 in
set_option maxHeartbeats 4000000 in
theorem c_X6_readSemicolon (l : Launch) (X : XT) (hinj : XInj X nC) (hZ : ZOK (Zc X)) (N : Nat) (S : S2) (c0 : Nat) (a1 : Int) (i0 : Is6 c0) (out : Int × S2) (hf : f_X6_readSemicolon N S c0 a1 = some out) : MI l X shC nC (Zc X) yX6_readSemicolon cX6_readSemicolon 2 (some .boolean) rmX6_readSemicolon [.ref (X.2.2 c0), .int (iz a1)] S out := by
  refine met_I (own := RX6) (by decide) rfl hinj hZ (Nat.le_of_ble_eq_true rfl) (fun p e s m args below meth c C ls H locs hw hl => ?_)
  unfold f_X6_readSemicolon at hf
  have hl : lv_has ls 2 [(0, .ref (X.2.2 c0)), (1, .int (iz a1))] := hl
  refine lv_aload_n C.1.1 C.1.2.1 dX6_readSemicolon_0 rfl (lv_at hl 0 rfl) ?_
  refine r_callV (As := []) (rest := []) (rm := rmX6_skipBlanks) C hw (is6_s i0) (is6_l i0) cO6 tw2_139 tw2_141 tp_3 tw1_2 tw2_142 hd_X6_skipBlanks rfl ⟨⟨rfl, rfl⟩, Nat.le_of_ble_eq_true rfl, Nat.le_of_ble_eq_true rfl⟩ hl.1 rfl (Nat.le_of_ble_eq_true rfl) dX6_readSemicolon_1 hf (fun o ho => c_X6_skipBlanks l X hinj hZ N S c0 i0 o ho) (fun S1 H locs hf hw => ?_)
  refine lv_aload_n C.1.1 C.1.2.1 dX6_readSemicolon_4 rfl (lv_at hl 0 rfl) ?_
  refine r_getI (k := 1) C hw (is6_s i0) (is6_l i0) cO6 rfl (by decide) tw1_55 rfl dX6_readSemicolon_5 hf (fun v5 hf => ?_)
  refine lv_aload_n C.1.1 C.1.2.1 dX6_readSemicolon_8 rfl (lv_at hl 0 rfl) ?_
  refine r_getR (k := 0) C hw (is6_s i0) (is6_l i0) cO6 rfl (by decide) tw1_53 rfl dX6_readSemicolon_9 ?_
  refine r_getI (k := 1) C hw (is9_s (is6_o1 i0)) (is9_l (is6_o1 i0)) cO9 rfl (by decide) tw1_46 rfl dX6_readSemicolon_12 hf (fun v12 hf => ?_)
  refine r_icmp_lt C (tgt := 20) dX6_readSemicolon_15 (by decide) hf (fun hf => ?_) (fun hf => ?_)
  · refine lv_aload_n C.1.1 C.1.2.1 dX6_readSemicolon_20 rfl (lv_at hl 0 rfl) ?_
    refine r_getR (k := 0) C hw (is6_s i0) (is6_l i0) cO6 rfl (by decide) tw1_53 rfl dX6_readSemicolon_21 ?_
    refine lv_aload_n C.1.1 C.1.2.1 dX6_readSemicolon_24 rfl (lv_at hl 0 rfl) ?_
    refine r_getI (k := 1) C hw (is6_s i0) (is6_l i0) cO6 rfl (by decide) tw1_55 rfl dX6_readSemicolon_25 hf (fun v25 hf => ?_)
    refine r_callI (As := [.int (iz v25)]) (rest := []) (rm := rmX9_byteAt) C hw (is9_s (is6_o1 i0)) (is9_l (is6_o1 i0)) cO9 tw2_143 tw2_144 tw2_145 tw1_3 tw2_146 hd_X9_byteAt rfl ⟨⟨rfl, rfl⟩, Nat.le_of_ble_eq_true rfl, Nat.le_of_ble_eq_true rfl⟩ hl.1 rfl (Nat.le_of_ble_eq_true rfl) dX6_readSemicolon_28 hf (fun o ho => c_X9_byteAt l X hinj hZ N S1 (c0 + 1) v25 (is6_o1 i0) o ho) (fun v28 S28 H locs hf hw => ?_)
    refine r_bipush (v := 59) C dX6_readSemicolon_31 (by decide) ?_
    refine r_icmp_ne C (tgt := 40) dX6_readSemicolon_33 (by decide) hf (fun hf => ?_) (fun hf => ?_)
    · exact (w_X6_readSemicolon_40 l hinj hZ C out c0 i0 N) S28 H locs ls hf hw (lv_sub hl [0] rfl)
    · refine lv_iload_n C.1.1 C.1.2.1 dX6_readSemicolon_36 rfl (lv_at hl 1 rfl) ?_
      refine r_if_ne C (tgt := 49) dX6_readSemicolon_37 (by decide) hf (fun hf => ?_) (fun hf => ?_)
      · refine lv_aload_n C.1.1 C.1.2.1 dX6_readSemicolon_49 rfl (lv_at hl 0 rfl) ?_
        refine lv_dup C.1.1 C.1.2.1 dX6_readSemicolon_50 rfl ?_
        refine r_getI (k := 1) C hw (is6_s i0) (is6_l i0) cO6 rfl (by decide) tw1_55 rfl dX6_readSemicolon_51 hf (fun v51 hf => ?_)
        refine r_iconst (v := 1) C dX6_readSemicolon_54 ?_
        refine r_iadd C dX6_readSemicolon_55 ?_
        refine r_putI (k := 1) C hw (is6_s i0) (is6_l i0) cO6 rfl (by decide) tw1_55 rfl rfl rfl dX6_readSemicolon_56 hf (fun S56 H locs hf hw => ?_)
        refine r_iconst (v := 1) C dX6_readSemicolon_59 ?_
        exact r_retZ C hw dX6_readSemicolon_60 hf
      · exact (w_X6_readSemicolon_40 l hinj hZ C out c0 i0 N) S28 H locs ls hf hw (lv_sub hl [0] rfl)
  · refine r_iconst (v := 0) C dX6_readSemicolon_18 ?_
    exact r_retZ C hw dX6_readSemicolon_19 hf
def f_X6_readWord_84 (c0 : Nat) (N : Nat) (S : S2) : Option (Int × S2) := rZ 1 S
def f_X6_readWord_53 (c0 : Nat) (N : Nat) (S : S2) : Option (Int × S2) := gI S c0 1 fun v55 => gI S c0 4 fun v59 => uI S c0 5 (v55 - v59) fun S63 => gI S63 c0 5 fun v67 => cI v67 0 (if 0 < v67 then (f_X6_readWord_84 c0 N) S63 else gI S63 c0 4 fun v75 => bI (f_X6_fail N S63 c0 v75) fun v78 S78 => cI v78 0 (if v78 = 0 then rZ 0 S78 else (f_X6_readWord_84 c0 N) S78))
def f_X6_readWord_12 (c0 : Nat) (k53 : S2 → Option (Int × S2)) : Nat → S2 → Option (Int × S2)
  | 0, _ => none
  | N + 1, S => gI S c0 1 fun v13 => gI S (c0 + 1) 1 fun v20 => cI v13 v20 (if v20 ≤ v13 then k53 S else gI S c0 1 fun v31 => bI (f_X9_isLetter N S (c0 + 1) v31) fun v34 S34 => cI v34 0 (if v34 = 0 then k53 S34 else gI S34 c0 1 fun v42 => uI S34 c0 1 (v42 + 1) fun S47 => (f_X6_readWord_12 c0 k53 N) S47))
def f_X6_readWord (N : Nat) (S : S2) (c0 : Nat) : Option (Int × S2) := bV (f_X6_skipBlanks N S c0) fun S1 => gI S1 c0 1 fun v6 => uI S1 c0 4 v6 fun S9 => (f_X6_readWord_12 c0 (f_X6_readWord_53 c0 N) N) S9
abbrev rmX6_readWord : Room := { frames := 2, cells := 0, slots := 0, locals := 43 }
theorem hd_X6_readWord : yX6_readWord.cls ≠ "java/lang/invoke/MethodHandle" ∧ yX6_readWord.cls ≠ "java/lang/invoke/VarHandle" ∧ (parseMethodDescriptor yX6_readWord.desc).map (fun d => d.parameters.length) = some 0 := by decide +kernel
set_option maxRecDepth 100000 in
set_option maxHeartbeats 4000000 in
theorem w_X6_readWord_84 {p : Program} (l : Launch) {e : Env} {s : State} {m : MethodId} {args : Array Value} {below : List Frame} {meth : Method} {c : Code} {X : XT} (hinj : XInj X nC) (hZ : ZOK (Zc X)) (C : CX p s m args meth c cX6_readWord 1 RX6 (some .boolean) X nC (Zc X)) (out : Int × S2) (c0 : Nat) (i0 : Is6 c0) : ∀ (N : Nat), ∀ (S : S2) (H : Heap) (locs : List Loc) (ls : Array Slot), f_X6_readWord_84 c0 N S = some out → WH X shC nC s S H locs → lv_has ls 1 [] → W p l e rmX6_readWord s m args below meth c H locs 0 0 (QI X shC nC s args below out) (F0 m 84 ls []) := by
  intro N S H locs ls hf hw hl
  unfold f_X6_readWord_84 at hf
  refine r_iconst (v := 1) C dX6_readWord_84 ?_
  refine lv_goto (tgt := 89) C.1.1 C.1.2.1 dX6_readWord_85 (by decide) ?_
  exact r_retZ C hw dX6_readWord_89 hf
set_option maxRecDepth 100000 in
set_option maxHeartbeats 4000000 in
theorem w_X6_readWord_53 {p : Program} (l : Launch) {e : Env} {s : State} {m : MethodId} {args : Array Value} {below : List Frame} {meth : Method} {c : Code} {X : XT} (hinj : XInj X nC) (hZ : ZOK (Zc X)) (C : CX p s m args meth c cX6_readWord 1 RX6 (some .boolean) X nC (Zc X)) (out : Int × S2) (c0 : Nat) (i0 : Is6 c0) : ∀ (N : Nat), ∀ (S : S2) (H : Heap) (locs : List Loc) (ls : Array Slot), f_X6_readWord_53 c0 N S = some out → WH X shC nC s S H locs → lv_has ls 1 [(0, .ref (X.2.2 c0))] → W p l e rmX6_readWord s m args below meth c H locs 0 0 (QI X shC nC s args below out) (F0 m 53 ls []) := by
  intro N S H locs ls hf hw hl
  unfold f_X6_readWord_53 at hf
  refine lv_aload_n C.1.1 C.1.2.1 dX6_readWord_53 rfl (lv_at hl 0 rfl) ?_
  refine lv_aload_n C.1.1 C.1.2.1 dX6_readWord_54 rfl (lv_at hl 0 rfl) ?_
  refine r_getI (k := 1) C hw (is6_s i0) (is6_l i0) cO6 rfl (by decide) tw1_55 rfl dX6_readWord_55 hf (fun v55 hf => ?_)
  refine lv_aload_n C.1.1 C.1.2.1 dX6_readWord_58 rfl (lv_at hl 0 rfl) ?_
  refine r_getI (k := 4) C hw (is6_s i0) (is6_l i0) cO6 rfl (by decide) tw1_58 rfl dX6_readWord_59 hf (fun v59 hf => ?_)
  refine r_isub C dX6_readWord_62 ?_
  refine r_putI (k := 5) C hw (is6_s i0) (is6_l i0) cO6 rfl (by decide) tw1_59 rfl rfl rfl dX6_readWord_63 hf (fun S63 H locs hf hw => ?_)
  refine lv_aload_n C.1.1 C.1.2.1 dX6_readWord_66 rfl (lv_at hl 0 rfl) ?_
  refine r_getI (k := 5) C hw (is6_s i0) (is6_l i0) cO6 rfl (by decide) tw1_59 rfl dX6_readWord_67 hf (fun v67 hf => ?_)
  refine r_if_gt C (tgt := 84) dX6_readWord_70 (by decide) hf (fun hf => ?_) (fun hf => ?_)
  · exact (w_X6_readWord_84 l hinj hZ C out c0 i0 N) S63 H locs ls hf hw (lv_sub hl [] rfl)
  · refine lv_aload_n C.1.1 C.1.2.1 dX6_readWord_73 rfl (lv_at hl 0 rfl) ?_
    refine lv_aload_n C.1.1 C.1.2.1 dX6_readWord_74 rfl (lv_at hl 0 rfl) ?_
    refine r_getI (k := 4) C hw (is6_s i0) (is6_l i0) cO6 rfl (by decide) tw1_58 rfl dX6_readWord_75 hf (fun v75 hf => ?_)
    refine r_callI (As := [.int (iz v75)]) (rest := []) (rm := rmX6_fail) C hw (is6_s i0) (is6_l i0) cO6 tw2_152 tw2_154 tp_4 tw1_2 tw2_155 hd_X6_fail rfl ⟨⟨rfl, rfl⟩, Nat.le_of_ble_eq_true rfl, Nat.le_of_ble_eq_true rfl⟩ hl.1 rfl (Nat.le_of_ble_eq_true rfl) dX6_readWord_78 hf (fun o ho => c_X6_fail l X hinj hZ N S63 c0 v75 i0 o ho) (fun v78 S78 H locs hf hw => ?_)
    refine r_if_eq C (tgt := 88) dX6_readWord_81 (by decide) hf (fun hf => ?_) (fun hf => ?_)
    · refine r_iconst (v := 0) C dX6_readWord_88 ?_
      exact r_retZ C hw dX6_readWord_89 hf
    · exact (w_X6_readWord_84 l hinj hZ C out c0 i0 N) S78 H locs ls hf hw (lv_sub hl [] rfl)
set_option maxRecDepth 100000 in
set_option maxHeartbeats 4000000 in
theorem w_X6_readWord_12 {p : Program} (l : Launch) {e : Env} {s : State} {m : MethodId} {args : Array Value} {below : List Frame} {meth : Method} {c : Code} {X : XT} (hinj : XInj X nC) (hZ : ZOK (Zc X)) (C : CX p s m args meth c cX6_readWord 1 RX6 (some .boolean) X nC (Zc X)) (out : Int × S2) (c0 : Nat) (i0 : Is6 c0) (k53 : S2 → Option (Int × S2)) (hk53 : ∀ (S : S2) (H : Heap) (locs : List Loc) (ls : Array Slot), k53 S = some out → WH X shC nC s S H locs → lv_has ls 1 [(0, .ref (X.2.2 c0))] → W p l e rmX6_readWord s m args below meth c H locs 0 0 (QI X shC nC s args below out) (F0 m 53 ls [])) : ∀ (N : Nat), ∀ (S : S2) (H : Heap) (locs : List Loc) (ls : Array Slot), f_X6_readWord_12 c0 k53 N S = some out → WH X shC nC s S H locs → lv_has ls 1 [(0, .ref (X.2.2 c0))] → W p l e rmX6_readWord s m args below meth c H locs 0 0 (QI X shC nC s args below out) (F0 m 12 ls []) := by
  intro N
  induction N with
  | zero => intro S H locs ls hf hw hl; cases hf
  | succ N ih =>
    intro S H locs ls hf hw hl
    rw [f_X6_readWord_12.eq_2] at hf
    refine lv_aload_n C.1.1 C.1.2.1 dX6_readWord_12 rfl (lv_at hl 0 rfl) ?_
    refine r_getI (k := 1) C hw (is6_s i0) (is6_l i0) cO6 rfl (by decide) tw1_55 rfl dX6_readWord_13 hf (fun v13 hf => ?_)
    refine lv_aload_n C.1.1 C.1.2.1 dX6_readWord_16 rfl (lv_at hl 0 rfl) ?_
    refine r_getR (k := 0) C hw (is6_s i0) (is6_l i0) cO6 rfl (by decide) tw1_53 rfl dX6_readWord_17 ?_
    refine r_getI (k := 1) C hw (is9_s (is6_o1 i0)) (is9_l (is6_o1 i0)) cO9 rfl (by decide) tw1_46 rfl dX6_readWord_20 hf (fun v20 hf => ?_)
    refine r_icmp_ge C (tgt := 53) dX6_readWord_23 (by decide) hf (fun hf => ?_) (fun hf => ?_)
    · exact hk53 S H locs ls hf hw (lv_sub hl [0] rfl)
    · refine lv_aload_n C.1.1 C.1.2.1 dX6_readWord_26 rfl (lv_at hl 0 rfl) ?_
      refine r_getR (k := 0) C hw (is6_s i0) (is6_l i0) cO6 rfl (by decide) tw1_53 rfl dX6_readWord_27 ?_
      refine lv_aload_n C.1.1 C.1.2.1 dX6_readWord_30 rfl (lv_at hl 0 rfl) ?_
      refine r_getI (k := 1) C hw (is6_s i0) (is6_l i0) cO6 rfl (by decide) tw1_55 rfl dX6_readWord_31 hf (fun v31 hf => ?_)
      refine r_callI (As := [.int (iz v31)]) (rest := []) (rm := rmX9_isLetter) C hw (is9_s (is6_o1 i0)) (is9_l (is6_o1 i0)) cO9 tw2_147 tw2_148 tw2_149 tw1_3 tw2_150 hd_X9_isLetter rfl ⟨⟨rfl, rfl⟩, Nat.le_of_ble_eq_true rfl, Nat.le_of_ble_eq_true rfl⟩ hl.1 rfl (Nat.le_of_ble_eq_true rfl) dX6_readWord_34 hf (fun o ho => c_X9_isLetter l X hinj hZ N S (c0 + 1) v31 (is6_o1 i0) o ho) (fun v34 S34 H locs hf hw => ?_)
      refine r_if_eq C (tgt := 53) dX6_readWord_37 (by decide) hf (fun hf => ?_) (fun hf => ?_)
      · exact hk53 S34 H locs ls hf hw (lv_sub hl [0] rfl)
      · refine lv_aload_n C.1.1 C.1.2.1 dX6_readWord_40 rfl (lv_at hl 0 rfl) ?_
        refine lv_dup C.1.1 C.1.2.1 dX6_readWord_41 rfl ?_
        refine r_getI (k := 1) C hw (is6_s i0) (is6_l i0) cO6 rfl (by decide) tw1_55 rfl dX6_readWord_42 hf (fun v42 hf => ?_)
        refine r_iconst (v := 1) C dX6_readWord_45 ?_
        refine r_iadd C dX6_readWord_46 ?_
        refine r_putI (k := 1) C hw (is6_s i0) (is6_l i0) cO6 rfl (by decide) tw1_55 rfl rfl rfl dX6_readWord_47 hf (fun S47 H locs hf hw => ?_)
        refine lv_goto (tgt := 12) C.1.1 C.1.2.1 dX6_readWord_50 (by decide) ?_
        exact ih S47 H locs ls hf hw (lv_sub hl [0] rfl)
set_option maxRecDepth 100000 in
set_option maxHeartbeats 4000000 in
theorem c_X6_readWord (l : Launch) (X : XT) (hinj : XInj X nC) (hZ : ZOK (Zc X)) (N : Nat) (S : S2) (c0 : Nat) (i0 : Is6 c0) (out : Int × S2) (hf : f_X6_readWord N S c0 = some out) : MI l X shC nC (Zc X) yX6_readWord cX6_readWord 1 (some .boolean) rmX6_readWord [.ref (X.2.2 c0)] S out := by
  refine met_I (own := RX6) (by decide) rfl hinj hZ (Nat.le_of_ble_eq_true rfl) (fun p e s m args below meth c C ls H locs hw hl => ?_)
  unfold f_X6_readWord at hf
  have hl : lv_has ls 1 [(0, .ref (X.2.2 c0))] := hl
  refine lv_aload_n C.1.1 C.1.2.1 dX6_readWord_0 rfl (lv_at hl 0 rfl) ?_
  refine r_callV (As := []) (rest := []) (rm := rmX6_skipBlanks) C hw (is6_s i0) (is6_l i0) cO6 tw2_139 tw2_141 tp_3 tw1_2 tw2_142 hd_X6_skipBlanks rfl ⟨⟨rfl, rfl⟩, Nat.le_of_ble_eq_true rfl, Nat.le_of_ble_eq_true rfl⟩ hl.1 rfl (Nat.le_of_ble_eq_true rfl) dX6_readWord_1 hf (fun o ho => c_X6_skipBlanks l X hinj hZ N S c0 i0 o ho) (fun S1 H locs hf hw => ?_)
  refine lv_aload_n C.1.1 C.1.2.1 dX6_readWord_4 rfl (lv_at hl 0 rfl) ?_
  refine lv_aload_n C.1.1 C.1.2.1 dX6_readWord_5 rfl (lv_at hl 0 rfl) ?_
  refine r_getI (k := 1) C hw (is6_s i0) (is6_l i0) cO6 rfl (by decide) tw1_55 rfl dX6_readWord_6 hf (fun v6 hf => ?_)
  refine r_putI (k := 4) C hw (is6_s i0) (is6_l i0) cO6 rfl (by decide) tw1_58 rfl rfl rfl dX6_readWord_9 hf (fun S9 H locs hf hw => ?_)
  exact (w_X6_readWord_12 l hinj hZ C out c0 i0 (f_X6_readWord_53 c0 N) (w_X6_readWord_53 l hinj hZ C out c0 i0 N) N) S9 H locs ls hf hw (lv_sub hl [0] rfl)
def f_X6_readNumber_197 (c0 : Nat) (N : Nat) (S : S2) : Option (Int × S2) := rZ 1 S
def f_X6_readNumber_182 (c0 : Nat) (N : Nat) (x3 : Int) (y0 : Int) (S : S2) : Option (Int × S2) := cI y0 0 (if y0 = 0 then bI (f_X6_fail N S c0 x3) fun v191 S191 => cI v191 0 (if v191 = 0 then rZ 0 S191 else (f_X6_readNumber_197 c0 N) S191) else (f_X6_readNumber_197 c0 N) S)
def f_X6_readNumber_181 (c0 : Nat) (N : Nat) (x3 : Int) (S : S2) : Option (Int × S2) := (f_X6_readNumber_182 c0 N) x3 0 S
def f_X6_readNumber_149 (c0 : Nat) (N : Nat) (x1 : Int) (x2 : Int) (x3 : Int) (x5 : Int) (S : S2) : Option (Int × S2) := cI x5 1 (if x5 < 1 then (f_X6_readNumber_181 c0 N) x3 S else cI x5 3 (if 3 < x5 then (f_X6_readNumber_181 c0 N) x3 S else gI S c0 3 fun v162 => cI v162 x1 (if v162 < x1 then (f_X6_readNumber_181 c0 N) x3 S else gI S c0 3 fun v170 => cI v170 x2 (if x2 < v170 then (f_X6_readNumber_181 c0 N) x3 S else (f_X6_readNumber_182 c0 N) x3 1 S))))
def f_X6_readNumber_135 (c0 : Nat) (N : Nat) (x1 : Int) (x2 : Int) (x3 : Int) (x4 : Int) (x5 : Int) (S : S2) : Option (Int × S2) := cI x4 0 (if x4 = 0 then (f_X6_readNumber_149 c0 N) x1 x2 x3 x5 S else gI S c0 3 fun v142 => uI S c0 3 (-v142) fun S146 => (f_X6_readNumber_149 c0 N) x1 x2 x3 x5 S146)
def f_X6_readNumber_122 (c0 : Nat) (k59 : Int → Int → Int → Int → Int → S2 → Option (Int × S2)) (N : Nat) (x1 : Int) (x2 : Int) (x3 : Int) (x4 : Int) (x5 : Int) (S : S2) : Option (Int × S2) := gI S c0 1 fun v124 => uI S c0 1 (v124 + 1) fun S129 => k59 x1 x2 x3 x4 x5 S129
def f_X6_readNumber_59 (c0 : Nat) (k135 : Int → Int → Int → Int → Int → S2 → Option (Int × S2)) : Nat → Int → Int → Int → Int → Int → S2 → Option (Int × S2)
  | 0, _, _, _, _, _, _ => none
  | N + 1, x1, x2, x3, x4, x5, S => gI S c0 1 fun v60 => gI S (c0 + 1) 1 fun v67 => cI v60 v67 (if v67 ≤ v60 then k135 x1 x2 x3 x4 x5 S else gI S c0 1 fun v78 => bI (f_X9_isDigit N S (c0 + 1) v78) fun v81 S81 => cI v81 0 (if v81 = 0 then k135 x1 x2 x3 x4 x5 S81 else cI (x5 + 1) 3 (if 3 < (x5 + 1) then (f_X6_readNumber_122 c0 (f_X6_readNumber_59 c0 k135 N) N) x1 x2 x3 x4 (x5 + 1) S81 else gI S81 c0 3 fun v98 => gI S81 c0 1 fun v109 => bI (f_X9_byteAt N S81 (c0 + 1) v109) fun v112 S112 => uI S112 c0 3 ((v98 * 10) + (v112 - 48)) fun S119 => (f_X6_readNumber_122 c0 (f_X6_readNumber_59 c0 k135 N) N) x1 x2 x3 x4 (x5 + 1) S119)))
def f_X6_readNumber_51 (c0 : Nat) (N : Nat) (x1 : Int) (x2 : Int) (x3 : Int) (x4 : Int) (S : S2) : Option (Int × S2) := uI S c0 3 0 fun S56 => (f_X6_readNumber_59 c0 (f_X6_readNumber_135 c0 N) N) x1 x2 x3 x4 0 S56
def f_X6_readNumber_34 (c0 : Nat) (N : Nat) (x1 : Int) (x2 : Int) (x3 : Int) (y0 : Int) (S : S2) : Option (Int × S2) := cI y0 0 (if y0 = 0 then (f_X6_readNumber_51 c0 N) x1 x2 x3 y0 S else gI S c0 1 fun v43 => uI S c0 1 (v43 + 1) fun S48 => (f_X6_readNumber_51 c0 N) x1 x2 x3 y0 S48)
def f_X6_readNumber_33 (c0 : Nat) (N : Nat) (x1 : Int) (x2 : Int) (x3 : Int) (S : S2) : Option (Int × S2) := (f_X6_readNumber_34 c0 N) x1 x2 x3 0 S
def f_X6_readNumber (N : Nat) (S : S2) (c0 : Nat) (a1 : Int) (a2 : Int) : Option (Int × S2) := bV (f_X6_skipBlanks N S c0) fun S1 => gI S1 c0 1 fun v5 => cI a1 0 (if 0 ≤ a1 then (f_X6_readNumber_33 c0 N) a1 a2 v5 S1 else gI S1 c0 1 fun v18 => bI (f_X9_byteAt N S1 (c0 + 1) v18) fun v21 S21 => cI v21 45 (if v21 = 45 then (f_X6_readNumber_34 c0 N) a1 a2 v5 1 S21 else (f_X6_readNumber_33 c0 N) a1 a2 v5 S21))
abbrev rmX6_readNumber : Room := { frames := 2, cells := 0, slots := 0, locals := 43 }
theorem hd_X6_readNumber : yX6_readNumber.cls ≠ "java/lang/invoke/MethodHandle" ∧ yX6_readNumber.cls ≠ "java/lang/invoke/VarHandle" ∧ (parseMethodDescriptor yX6_readNumber.desc).map (fun d => d.parameters.length) = some 2 := by decide +kernel
set_option maxRecDepth 100000 in
set_option maxHeartbeats 4000000 in
theorem w_X6_readNumber_197 {p : Program} (l : Launch) {e : Env} {s : State} {m : MethodId} {args : Array Value} {below : List Frame} {meth : Method} {c : Code} {X : XT} (hinj : XInj X nC) (hZ : ZOK (Zc X)) (C : CX p s m args meth c cX6_readNumber 7 RX6 (some .boolean) X nC (Zc X)) (out : Int × S2) (c0 : Nat) (i0 : Is6 c0) : ∀ (N : Nat), ∀ (S : S2) (H : Heap) (locs : List Loc) (ls : Array Slot), f_X6_readNumber_197 c0 N S = some out → WH X shC nC s S H locs → lv_has ls 7 [] → W p l e rmX6_readNumber s m args below meth c H locs 0 0 (QI X shC nC s args below out) (F0 m 197 ls []) := by
  intro N S H locs ls hf hw hl
  unfold f_X6_readNumber_197 at hf
  refine r_iconst (v := 1) C dX6_readNumber_197 ?_
  refine lv_goto (tgt := 202) C.1.1 C.1.2.1 dX6_readNumber_198 (by decide) ?_
  exact r_retZ C hw dX6_readNumber_202 hf
set_option maxRecDepth 100000 in
set_option maxHeartbeats 4000000 in
theorem w_X6_readNumber_182 {p : Program} (l : Launch) {e : Env} {s : State} {m : MethodId} {args : Array Value} {below : List Frame} {meth : Method} {c : Code} {X : XT} (hinj : XInj X nC) (hZ : ZOK (Zc X)) (C : CX p s m args meth c cX6_readNumber 7 RX6 (some .boolean) X nC (Zc X)) (out : Int × S2) (c0 : Nat) (i0 : Is6 c0) : ∀ (N : Nat), ∀ (x3 : Int) (y0 : Int) (S : S2) (H : Heap) (locs : List Loc) (ls : Array Slot), f_X6_readNumber_182 c0 N x3 y0 S = some out → WH X shC nC s S H locs → lv_has ls 7 [(0, .ref (X.2.2 c0)), (3, .int (iz x3))] → W p l e rmX6_readNumber s m args below meth c H locs 0 0 (QI X shC nC s args below out) (F0 m 182 ls [.int (iz y0)]) := by
  intro N x3 y0 S H locs ls hf hw hl
  unfold f_X6_readNumber_182 at hf
  refine lv_istore (lv' := [(6, .int (iz y0)), (0, .ref (X.2.2 c0)), (3, .int (iz x3))]) C.1.1 C.1.2.1 dX6_readNumber_182 hl (by decide) rfl (fun ls hl => ?_)
  refine lv_iload C.1.1 C.1.2.1 dX6_readNumber_184 (lv_at hl 0 rfl) ?_
  refine r_if_ne C (tgt := 197) dX6_readNumber_186 (by decide) hf (fun hf => ?_) (fun hf => ?_)
  · exact (w_X6_readNumber_197 l hinj hZ C out c0 i0 N) S H locs ls hf hw (lv_sub hl [] rfl)
  · refine lv_aload_n C.1.1 C.1.2.1 dX6_readNumber_189 rfl (lv_at hl 1 rfl) ?_
    refine lv_iload_n C.1.1 C.1.2.1 dX6_readNumber_190 rfl (lv_at hl 2 rfl) ?_
    refine r_callI (As := [.int (iz x3)]) (rest := []) (rm := rmX6_fail) C hw (is6_s i0) (is6_l i0) cO6 tw2_152 tw2_154 tp_4 tw1_2 tw2_155 hd_X6_fail rfl ⟨⟨rfl, rfl⟩, Nat.le_of_ble_eq_true rfl, Nat.le_of_ble_eq_true rfl⟩ hl.1 rfl (Nat.le_of_ble_eq_true rfl) dX6_readNumber_191 hf (fun o ho => c_X6_fail l X hinj hZ N S c0 x3 i0 o ho) (fun v191 S191 H locs hf hw => ?_)
    refine r_if_eq C (tgt := 201) dX6_readNumber_194 (by decide) hf (fun hf => ?_) (fun hf => ?_)
    · refine r_iconst (v := 0) C dX6_readNumber_201 ?_
      exact r_retZ C hw dX6_readNumber_202 hf
    · exact (w_X6_readNumber_197 l hinj hZ C out c0 i0 N) S191 H locs ls hf hw (lv_sub hl [] rfl)
set_option maxRecDepth 100000 in
set_option maxHeartbeats 4000000 in
theorem w_X6_readNumber_181 {p : Program} (l : Launch) {e : Env} {s : State} {m : MethodId} {args : Array Value} {below : List Frame} {meth : Method} {c : Code} {X : XT} (hinj : XInj X nC) (hZ : ZOK (Zc X)) (C : CX p s m args meth c cX6_readNumber 7 RX6 (some .boolean) X nC (Zc X)) (out : Int × S2) (c0 : Nat) (i0 : Is6 c0) : ∀ (N : Nat), ∀ (x3 : Int) (S : S2) (H : Heap) (locs : List Loc) (ls : Array Slot), f_X6_readNumber_181 c0 N x3 S = some out → WH X shC nC s S H locs → lv_has ls 7 [(0, .ref (X.2.2 c0)), (3, .int (iz x3))] → W p l e rmX6_readNumber s m args below meth c H locs 0 0 (QI X shC nC s args below out) (F0 m 181 ls []) := by
  intro N x3 S H locs ls hf hw hl
  unfold f_X6_readNumber_181 at hf
  refine r_iconst (v := 0) C dX6_readNumber_181 ?_
  exact (w_X6_readNumber_182 l hinj hZ C out c0 i0 N) x3 0 S H locs ls hf hw (lv_sub hl [0, 1] rfl)
set_option maxRecDepth 100000 in
set_option maxHeartbeats 4000000 in
theorem w_X6_readNumber_149 {p : Program} (l : Launch) {e : Env} {s : State} {m : MethodId} {args : Array Value} {below : List Frame} {meth : Method} {c : Code} {X : XT} (hinj : XInj X nC) (hZ : ZOK (Zc X)) (C : CX p s m args meth c cX6_readNumber 7 RX6 (some .boolean) X nC (Zc X)) (out : Int × S2) (c0 : Nat) (i0 : Is6 c0) : ∀ (N : Nat), ∀ (x1 : Int) (x2 : Int) (x3 : Int) (x5 : Int) (S : S2) (H : Heap) (locs : List Loc) (ls : Array Slot), f_X6_readNumber_149 c0 N x1 x2 x3 x5 S = some out → WH X shC nC s S H locs → lv_has ls 7 [(0, .ref (X.2.2 c0)), (1, .int (iz x1)), (2, .int (iz x2)), (3, .int (iz x3)), (5, .int (iz x5))] → W p l e rmX6_readNumber s m args below meth c H locs 0 0 (QI X shC nC s args below out) (F0 m 149 ls []) := by
  intro N x1 x2 x3 x5 S H locs ls hf hw hl
  unfold f_X6_readNumber_149 at hf
  refine lv_iload C.1.1 C.1.2.1 dX6_readNumber_149 (lv_at hl 4 rfl) ?_
  refine r_iconst (v := 1) C dX6_readNumber_151 ?_
  refine r_icmp_lt C (tgt := 181) dX6_readNumber_152 (by decide) hf (fun hf => ?_) (fun hf => ?_)
  · exact (w_X6_readNumber_181 l hinj hZ C out c0 i0 N) x3 S H locs ls hf hw (lv_sub hl [0, 3] rfl)
  · refine lv_iload C.1.1 C.1.2.1 dX6_readNumber_155 (lv_at hl 4 rfl) ?_
    refine r_iconst (v := 3) C dX6_readNumber_157 ?_
    refine r_icmp_gt C (tgt := 181) dX6_readNumber_158 (by decide) hf (fun hf => ?_) (fun hf => ?_)
    · exact (w_X6_readNumber_181 l hinj hZ C out c0 i0 N) x3 S H locs ls hf hw (lv_sub hl [0, 3] rfl)
    · refine lv_aload_n C.1.1 C.1.2.1 dX6_readNumber_161 rfl (lv_at hl 0 rfl) ?_
      refine r_getI (k := 3) C hw (is6_s i0) (is6_l i0) cO6 rfl (by decide) tw1_57 rfl dX6_readNumber_162 hf (fun v162 hf => ?_)
      refine lv_iload_n C.1.1 C.1.2.1 dX6_readNumber_165 rfl (lv_at hl 1 rfl) ?_
      refine r_icmp_lt C (tgt := 181) dX6_readNumber_166 (by decide) hf (fun hf => ?_) (fun hf => ?_)
      · exact (w_X6_readNumber_181 l hinj hZ C out c0 i0 N) x3 S H locs ls hf hw (lv_sub hl [0, 3] rfl)
      · refine lv_aload_n C.1.1 C.1.2.1 dX6_readNumber_169 rfl (lv_at hl 0 rfl) ?_
        refine r_getI (k := 3) C hw (is6_s i0) (is6_l i0) cO6 rfl (by decide) tw1_57 rfl dX6_readNumber_170 hf (fun v170 hf => ?_)
        refine lv_iload_n C.1.1 C.1.2.1 dX6_readNumber_173 rfl (lv_at hl 2 rfl) ?_
        refine r_icmp_gt C (tgt := 181) dX6_readNumber_174 (by decide) hf (fun hf => ?_) (fun hf => ?_)
        · exact (w_X6_readNumber_181 l hinj hZ C out c0 i0 N) x3 S H locs ls hf hw (lv_sub hl [0, 3] rfl)
        · refine r_iconst (v := 1) C dX6_readNumber_177 ?_
          refine lv_goto (tgt := 182) C.1.1 C.1.2.1 dX6_readNumber_178 (by decide) ?_
          exact (w_X6_readNumber_182 l hinj hZ C out c0 i0 N) x3 1 S H locs ls hf hw (lv_sub hl [0, 3] rfl)
set_option maxRecDepth 100000 in
set_option maxHeartbeats 4000000 in
theorem w_X6_readNumber_135 {p : Program} (l : Launch) {e : Env} {s : State} {m : MethodId} {args : Array Value} {below : List Frame} {meth : Method} {c : Code} {X : XT} (hinj : XInj X nC) (hZ : ZOK (Zc X)) (C : CX p s m args meth c cX6_readNumber 7 RX6 (some .boolean) X nC (Zc X)) (out : Int × S2) (c0 : Nat) (i0 : Is6 c0) : ∀ (N : Nat), ∀ (x1 : Int) (x2 : Int) (x3 : Int) (x4 : Int) (x5 : Int) (S : S2) (H : Heap) (locs : List Loc) (ls : Array Slot), f_X6_readNumber_135 c0 N x1 x2 x3 x4 x5 S = some out → WH X shC nC s S H locs → lv_has ls 7 [(0, .ref (X.2.2 c0)), (1, .int (iz x1)), (2, .int (iz x2)), (3, .int (iz x3)), (4, .int (iz x4)), (5, .int (iz x5))] → W p l e rmX6_readNumber s m args below meth c H locs 0 0 (QI X shC nC s args below out) (F0 m 135 ls []) := by
  intro N x1 x2 x3 x4 x5 S H locs ls hf hw hl
  unfold f_X6_readNumber_135 at hf
  refine lv_iload C.1.1 C.1.2.1 dX6_readNumber_135 (lv_at hl 4 rfl) ?_
  refine r_if_eq C (tgt := 149) dX6_readNumber_137 (by decide) hf (fun hf => ?_) (fun hf => ?_)
  · exact (w_X6_readNumber_149 l hinj hZ C out c0 i0 N) x1 x2 x3 x5 S H locs ls hf hw (lv_sub hl [0, 1, 2, 3, 5] rfl)
  · refine lv_aload_n C.1.1 C.1.2.1 dX6_readNumber_140 rfl (lv_at hl 0 rfl) ?_
    refine lv_aload_n C.1.1 C.1.2.1 dX6_readNumber_141 rfl (lv_at hl 0 rfl) ?_
    refine r_getI (k := 3) C hw (is6_s i0) (is6_l i0) cO6 rfl (by decide) tw1_57 rfl dX6_readNumber_142 hf (fun v142 hf => ?_)
    refine r_ineg C dX6_readNumber_145 ?_
    refine r_putI (k := 3) C hw (is6_s i0) (is6_l i0) cO6 rfl (by decide) tw1_57 rfl rfl rfl dX6_readNumber_146 hf (fun S146 H locs hf hw => ?_)
    exact (w_X6_readNumber_149 l hinj hZ C out c0 i0 N) x1 x2 x3 x5 S146 H locs ls hf hw (lv_sub hl [0, 1, 2, 3, 5] rfl)
set_option maxRecDepth 100000 in
set_option maxHeartbeats 4000000 in
theorem w_X6_readNumber_122 {p : Program} (l : Launch) {e : Env} {s : State} {m : MethodId} {args : Array Value} {below : List Frame} {meth : Method} {c : Code} {X : XT} (hinj : XInj X nC) (hZ : ZOK (Zc X)) (C : CX p s m args meth c cX6_readNumber 7 RX6 (some .boolean) X nC (Zc X)) (out : Int × S2) (c0 : Nat) (i0 : Is6 c0) (k59 : Int → Int → Int → Int → Int → S2 → Option (Int × S2)) (hk59 : ∀ (x1 : Int) (x2 : Int) (x3 : Int) (x4 : Int) (x5 : Int) (S : S2) (H : Heap) (locs : List Loc) (ls : Array Slot), k59 x1 x2 x3 x4 x5 S = some out → WH X shC nC s S H locs → lv_has ls 7 [(0, .ref (X.2.2 c0)), (1, .int (iz x1)), (2, .int (iz x2)), (3, .int (iz x3)), (4, .int (iz x4)), (5, .int (iz x5))] → W p l e rmX6_readNumber s m args below meth c H locs 0 0 (QI X shC nC s args below out) (F0 m 59 ls [])) : ∀ (N : Nat), ∀ (x1 : Int) (x2 : Int) (x3 : Int) (x4 : Int) (x5 : Int) (S : S2) (H : Heap) (locs : List Loc) (ls : Array Slot), f_X6_readNumber_122 c0 k59 N x1 x2 x3 x4 x5 S = some out → WH X shC nC s S H locs → lv_has ls 7 [(0, .ref (X.2.2 c0)), (1, .int (iz x1)), (2, .int (iz x2)), (3, .int (iz x3)), (4, .int (iz x4)), (5, .int (iz x5))] → W p l e rmX6_readNumber s m args below meth c H locs 0 0 (QI X shC nC s args below out) (F0 m 122 ls []) := by
  intro N x1 x2 x3 x4 x5 S H locs ls hf hw hl
  unfold f_X6_readNumber_122 at hf
  refine lv_aload_n C.1.1 C.1.2.1 dX6_readNumber_122 rfl (lv_at hl 0 rfl) ?_
  refine lv_dup C.1.1 C.1.2.1 dX6_readNumber_123 rfl ?_
  refine r_getI (k := 1) C hw (is6_s i0) (is6_l i0) cO6 rfl (by decide) tw1_55 rfl dX6_readNumber_124 hf (fun v124 hf => ?_)
  refine r_iconst (v := 1) C dX6_readNumber_127 ?_
  refine r_iadd C dX6_readNumber_128 ?_
  refine r_putI (k := 1) C hw (is6_s i0) (is6_l i0) cO6 rfl (by decide) tw1_55 rfl rfl rfl dX6_readNumber_129 hf (fun S129 H locs hf hw => ?_)
  refine lv_goto (tgt := 59) C.1.1 C.1.2.1 dX6_readNumber_132 (by decide) ?_
  exact hk59 x1 x2 x3 x4 x5 S129 H locs ls hf hw (lv_sub hl [0, 1, 2, 3, 4, 5] rfl)
set_option maxRecDepth 100000 in
set_option maxHeartbeats 4000000 in
theorem w_X6_readNumber_59 {p : Program} (l : Launch) {e : Env} {s : State} {m : MethodId} {args : Array Value} {below : List Frame} {meth : Method} {c : Code} {X : XT} (hinj : XInj X nC) (hZ : ZOK (Zc X)) (C : CX p s m args meth c cX6_readNumber 7 RX6 (some .boolean) X nC (Zc X)) (out : Int × S2) (c0 : Nat) (i0 : Is6 c0) (k135 : Int → Int → Int → Int → Int → S2 → Option (Int × S2)) (hk135 : ∀ (x1 : Int) (x2 : Int) (x3 : Int) (x4 : Int) (x5 : Int) (S : S2) (H : Heap) (locs : List Loc) (ls : Array Slot), k135 x1 x2 x3 x4 x5 S = some out → WH X shC nC s S H locs → lv_has ls 7 [(0, .ref (X.2.2 c0)), (1, .int (iz x1)), (2, .int (iz x2)), (3, .int (iz x3)), (4, .int (iz x4)), (5, .int (iz x5))] → W p l e rmX6_readNumber s m args below meth c H locs 0 0 (QI X shC nC s args below out) (F0 m 135 ls [])) : ∀ (N : Nat), ∀ (x1 : Int) (x2 : Int) (x3 : Int) (x4 : Int) (x5 : Int) (S : S2) (H : Heap) (locs : List Loc) (ls : Array Slot), f_X6_readNumber_59 c0 k135 N x1 x2 x3 x4 x5 S = some out → WH X shC nC s S H locs → lv_has ls 7 [(0, .ref (X.2.2 c0)), (1, .int (iz x1)), (2, .int (iz x2)), (3, .int (iz x3)), (4, .int (iz x4)), (5, .int (iz x5))] → W p l e rmX6_readNumber s m args below meth c H locs 0 0 (QI X shC nC s args below out) (F0 m 59 ls []) := by
  intro N
  induction N with
  | zero => intro x1 x2 x3 x4 x5 S H locs ls hf hw hl; cases hf
  | succ N ih =>
    intro x1 x2 x3 x4 x5 S H locs ls hf hw hl
    rw [f_X6_readNumber_59.eq_2] at hf
    refine lv_aload_n C.1.1 C.1.2.1 dX6_readNumber_59 rfl (lv_at hl 0 rfl) ?_
    refine r_getI (k := 1) C hw (is6_s i0) (is6_l i0) cO6 rfl (by decide) tw1_55 rfl dX6_readNumber_60 hf (fun v60 hf => ?_)
    refine lv_aload_n C.1.1 C.1.2.1 dX6_readNumber_63 rfl (lv_at hl 0 rfl) ?_
    refine r_getR (k := 0) C hw (is6_s i0) (is6_l i0) cO6 rfl (by decide) tw1_53 rfl dX6_readNumber_64 ?_
    refine r_getI (k := 1) C hw (is9_s (is6_o1 i0)) (is9_l (is6_o1 i0)) cO9 rfl (by decide) tw1_46 rfl dX6_readNumber_67 hf (fun v67 hf => ?_)
    refine r_icmp_ge C (tgt := 135) dX6_readNumber_70 (by decide) hf (fun hf => ?_) (fun hf => ?_)
    · exact hk135 x1 x2 x3 x4 x5 S H locs ls hf hw (lv_sub hl [0, 1, 2, 3, 4, 5] rfl)
    · refine lv_aload_n C.1.1 C.1.2.1 dX6_readNumber_73 rfl (lv_at hl 0 rfl) ?_
      refine r_getR (k := 0) C hw (is6_s i0) (is6_l i0) cO6 rfl (by decide) tw1_53 rfl dX6_readNumber_74 ?_
      refine lv_aload_n C.1.1 C.1.2.1 dX6_readNumber_77 rfl (lv_at hl 0 rfl) ?_
      refine r_getI (k := 1) C hw (is6_s i0) (is6_l i0) cO6 rfl (by decide) tw1_55 rfl dX6_readNumber_78 hf (fun v78 hf => ?_)
      refine r_callI (As := [.int (iz v78)]) (rest := []) (rm := rmX9_isDigit) C hw (is9_s (is6_o1 i0)) (is9_l (is6_o1 i0)) cO9 tw2_217 tw2_218 tw2_219 tw1_3 tw2_220 hd_X9_isDigit rfl ⟨⟨rfl, rfl⟩, Nat.le_of_ble_eq_true rfl, Nat.le_of_ble_eq_true rfl⟩ hl.1 rfl (Nat.le_of_ble_eq_true rfl) dX6_readNumber_81 hf (fun o ho => c_X9_isDigit l X hinj hZ N S (c0 + 1) v78 (is6_o1 i0) o ho) (fun v81 S81 H locs hf hw => ?_)
      refine r_if_eq C (tgt := 135) dX6_readNumber_84 (by decide) hf (fun hf => ?_) (fun hf => ?_)
      · exact hk135 x1 x2 x3 x4 x5 S81 H locs ls hf hw (lv_sub hl [0, 1, 2, 3, 4, 5] rfl)
      · refine lv_iinc (v := iz (x5 + 1)) (lv' := [(5, .int (iz (x5 + 1))), (0, .ref (X.2.2 c0)), (1, .int (iz x1)), (2, .int (iz x2)), (3, .int (iz x3)), (4, .int (iz x4))]) C.1.1 C.1.2.1 dX6_readNumber_87 hl (k := 5) rfl (iz_add _ _) (by decide) rfl (fun ls hl => ?_)
        refine lv_iload C.1.1 C.1.2.1 dX6_readNumber_90 (lv_at hl 0 rfl) ?_
        refine r_iconst (v := 3) C dX6_readNumber_92 ?_
        refine r_icmp_gt C (tgt := 122) dX6_readNumber_93 (by decide) hf (fun hf => ?_) (fun hf => ?_)
        · exact (w_X6_readNumber_122 l hinj hZ C out c0 i0 (f_X6_readNumber_59 c0 k135 N) ih N) x1 x2 x3 x4 (x5 + 1) S81 H locs ls hf hw (lv_sub hl [1, 2, 3, 4, 5, 0] rfl)
        · refine lv_aload_n C.1.1 C.1.2.1 dX6_readNumber_96 rfl (lv_at hl 1 rfl) ?_
          refine lv_aload_n C.1.1 C.1.2.1 dX6_readNumber_97 rfl (lv_at hl 1 rfl) ?_
          refine r_getI (k := 3) C hw (is6_s i0) (is6_l i0) cO6 rfl (by decide) tw1_57 rfl dX6_readNumber_98 hf (fun v98 hf => ?_)
          refine r_bipush (v := 10) C dX6_readNumber_101 (by decide) ?_
          refine r_imul C dX6_readNumber_103 ?_
          refine lv_aload_n C.1.1 C.1.2.1 dX6_readNumber_104 rfl (lv_at hl 1 rfl) ?_
          refine r_getR (k := 0) C hw (is6_s i0) (is6_l i0) cO6 rfl (by decide) tw1_53 rfl dX6_readNumber_105 ?_
          refine lv_aload_n C.1.1 C.1.2.1 dX6_readNumber_108 rfl (lv_at hl 1 rfl) ?_
          refine r_getI (k := 1) C hw (is6_s i0) (is6_l i0) cO6 rfl (by decide) tw1_55 rfl dX6_readNumber_109 hf (fun v109 hf => ?_)
          refine r_callI (As := [.int (iz v109)]) (rest := [.int (iz (v98 * 10)), .ref (X.2.2 c0)]) (rm := rmX9_byteAt) C hw (is9_s (is6_o1 i0)) (is9_l (is6_o1 i0)) cO9 tw2_143 tw2_144 tw2_145 tw1_3 tw2_146 hd_X9_byteAt rfl ⟨⟨rfl, rfl⟩, Nat.le_of_ble_eq_true rfl, Nat.le_of_ble_eq_true rfl⟩ hl.1 rfl (Nat.le_of_ble_eq_true rfl) dX6_readNumber_112 hf (fun o ho => c_X9_byteAt l X hinj hZ N S81 (c0 + 1) v109 (is6_o1 i0) o ho) (fun v112 S112 H locs hf hw => ?_)
          refine r_bipush (v := 48) C dX6_readNumber_115 (by decide) ?_
          refine r_isub C dX6_readNumber_117 ?_
          refine r_iadd C dX6_readNumber_118 ?_
          refine r_putI (k := 3) C hw (is6_s i0) (is6_l i0) cO6 rfl (by decide) tw1_57 rfl rfl rfl dX6_readNumber_119 hf (fun S119 H locs hf hw => ?_)
          exact (w_X6_readNumber_122 l hinj hZ C out c0 i0 (f_X6_readNumber_59 c0 k135 N) ih N) x1 x2 x3 x4 (x5 + 1) S119 H locs ls hf hw (lv_sub hl [1, 2, 3, 4, 5, 0] rfl)
set_option maxRecDepth 100000 in
set_option maxHeartbeats 4000000 in
theorem w_X6_readNumber_51 {p : Program} (l : Launch) {e : Env} {s : State} {m : MethodId} {args : Array Value} {below : List Frame} {meth : Method} {c : Code} {X : XT} (hinj : XInj X nC) (hZ : ZOK (Zc X)) (C : CX p s m args meth c cX6_readNumber 7 RX6 (some .boolean) X nC (Zc X)) (out : Int × S2) (c0 : Nat) (i0 : Is6 c0) : ∀ (N : Nat), ∀ (x1 : Int) (x2 : Int) (x3 : Int) (x4 : Int) (S : S2) (H : Heap) (locs : List Loc) (ls : Array Slot), f_X6_readNumber_51 c0 N x1 x2 x3 x4 S = some out → WH X shC nC s S H locs → lv_has ls 7 [(0, .ref (X.2.2 c0)), (1, .int (iz x1)), (2, .int (iz x2)), (3, .int (iz x3)), (4, .int (iz x4))] → W p l e rmX6_readNumber s m args below meth c H locs 0 0 (QI X shC nC s args below out) (F0 m 51 ls []) := by
  intro N x1 x2 x3 x4 S H locs ls hf hw hl
  unfold f_X6_readNumber_51 at hf
  refine r_iconst (v := 0) C dX6_readNumber_51 ?_
  refine lv_istore (lv' := [(5, .int (iz 0)), (0, .ref (X.2.2 c0)), (1, .int (iz x1)), (2, .int (iz x2)), (3, .int (iz x3)), (4, .int (iz x4))]) C.1.1 C.1.2.1 dX6_readNumber_52 hl (by decide) rfl (fun ls hl => ?_)
  refine lv_aload_n C.1.1 C.1.2.1 dX6_readNumber_54 rfl (lv_at hl 1 rfl) ?_
  refine r_iconst (v := 0) C dX6_readNumber_55 ?_
  refine r_putI (k := 3) C hw (is6_s i0) (is6_l i0) cO6 rfl (by decide) tw1_57 rfl rfl rfl dX6_readNumber_56 hf (fun S56 H locs hf hw => ?_)
  exact (w_X6_readNumber_59 l hinj hZ C out c0 i0 (f_X6_readNumber_135 c0 N) (w_X6_readNumber_135 l hinj hZ C out c0 i0 N) N) x1 x2 x3 x4 0 S56 H locs ls hf hw (lv_sub hl [1, 2, 3, 4, 5, 0] rfl)
set_option maxRecDepth 100000 in
set_option maxHeartbeats 4000000 in
theorem w_X6_readNumber_34 {p : Program} (l : Launch) {e : Env} {s : State} {m : MethodId} {args : Array Value} {below : List Frame} {meth : Method} {c : Code} {X : XT} (hinj : XInj X nC) (hZ : ZOK (Zc X)) (C : CX p s m args meth c cX6_readNumber 7 RX6 (some .boolean) X nC (Zc X)) (out : Int × S2) (c0 : Nat) (i0 : Is6 c0) : ∀ (N : Nat), ∀ (x1 : Int) (x2 : Int) (x3 : Int) (y0 : Int) (S : S2) (H : Heap) (locs : List Loc) (ls : Array Slot), f_X6_readNumber_34 c0 N x1 x2 x3 y0 S = some out → WH X shC nC s S H locs → lv_has ls 7 [(0, .ref (X.2.2 c0)), (1, .int (iz x1)), (2, .int (iz x2)), (3, .int (iz x3))] → W p l e rmX6_readNumber s m args below meth c H locs 0 0 (QI X shC nC s args below out) (F0 m 34 ls [.int (iz y0)]) := by
  intro N x1 x2 x3 y0 S H locs ls hf hw hl
  unfold f_X6_readNumber_34 at hf
  refine lv_istore (lv' := [(4, .int (iz y0)), (0, .ref (X.2.2 c0)), (1, .int (iz x1)), (2, .int (iz x2)), (3, .int (iz x3))]) C.1.1 C.1.2.1 dX6_readNumber_34 hl (by decide) rfl (fun ls hl => ?_)
  refine lv_iload C.1.1 C.1.2.1 dX6_readNumber_36 (lv_at hl 0 rfl) ?_
  refine r_if_eq C (tgt := 51) dX6_readNumber_38 (by decide) hf (fun hf => ?_) (fun hf => ?_)
  · exact (w_X6_readNumber_51 l hinj hZ C out c0 i0 N) x1 x2 x3 y0 S H locs ls hf hw (lv_sub hl [1, 2, 3, 4, 0] rfl)
  · refine lv_aload_n C.1.1 C.1.2.1 dX6_readNumber_41 rfl (lv_at hl 1 rfl) ?_
    refine lv_dup C.1.1 C.1.2.1 dX6_readNumber_42 rfl ?_
    refine r_getI (k := 1) C hw (is6_s i0) (is6_l i0) cO6 rfl (by decide) tw1_55 rfl dX6_readNumber_43 hf (fun v43 hf => ?_)
    refine r_iconst (v := 1) C dX6_readNumber_46 ?_
    refine r_iadd C dX6_readNumber_47 ?_
    refine r_putI (k := 1) C hw (is6_s i0) (is6_l i0) cO6 rfl (by decide) tw1_55 rfl rfl rfl dX6_readNumber_48 hf (fun S48 H locs hf hw => ?_)
    exact (w_X6_readNumber_51 l hinj hZ C out c0 i0 N) x1 x2 x3 y0 S48 H locs ls hf hw (lv_sub hl [1, 2, 3, 4, 0] rfl)
set_option maxRecDepth 100000 in
set_option maxHeartbeats 4000000 in
theorem w_X6_readNumber_33 {p : Program} (l : Launch) {e : Env} {s : State} {m : MethodId} {args : Array Value} {below : List Frame} {meth : Method} {c : Code} {X : XT} (hinj : XInj X nC) (hZ : ZOK (Zc X)) (C : CX p s m args meth c cX6_readNumber 7 RX6 (some .boolean) X nC (Zc X)) (out : Int × S2) (c0 : Nat) (i0 : Is6 c0) : ∀ (N : Nat), ∀ (x1 : Int) (x2 : Int) (x3 : Int) (S : S2) (H : Heap) (locs : List Loc) (ls : Array Slot), f_X6_readNumber_33 c0 N x1 x2 x3 S = some out → WH X shC nC s S H locs → lv_has ls 7 [(0, .ref (X.2.2 c0)), (1, .int (iz x1)), (2, .int (iz x2)), (3, .int (iz x3))] → W p l e rmX6_readNumber s m args below meth c H locs 0 0 (QI X shC nC s args below out) (F0 m 33 ls []) := by
  intro N x1 x2 x3 S H locs ls hf hw hl
  unfold f_X6_readNumber_33 at hf
  refine r_iconst (v := 0) C dX6_readNumber_33 ?_
  exact (w_X6_readNumber_34 l hinj hZ C out c0 i0 N) x1 x2 x3 0 S H locs ls hf hw (lv_sub hl [0, 1, 2, 3] rfl)
set_option maxRecDepth 100000 in
set_option maxHeartbeats 4000000 in
theorem c_X6_readNumber (l : Launch) (X : XT) (hinj : XInj X nC) (hZ : ZOK (Zc X)) (N : Nat) (S : S2) (c0 : Nat) (a1 : Int) (a2 : Int) (i0 : Is6 c0) (out : Int × S2) (hf : f_X6_readNumber N S c0 a1 a2 = some out) : MI l X shC nC (Zc X) yX6_readNumber cX6_readNumber 7 (some .boolean) rmX6_readNumber [.ref (X.2.2 c0), .int (iz a1), .int (iz a2)] S out := by
  refine met_I (own := RX6) (by decide) rfl hinj hZ (Nat.le_of_ble_eq_true rfl) (fun p e s m args below meth c C ls H locs hw hl => ?_)
  unfold f_X6_readNumber at hf
  have hl : lv_has ls 7 [(0, .ref (X.2.2 c0)), (1, .int (iz a1)), (2, .int (iz a2))] := hl
  refine lv_aload_n C.1.1 C.1.2.1 dX6_readNumber_0 rfl (lv_at hl 0 rfl) ?_
  refine r_callV (As := []) (rest := []) (rm := rmX6_skipBlanks) C hw (is6_s i0) (is6_l i0) cO6 tw2_139 tw2_141 tp_3 tw1_2 tw2_142 hd_X6_skipBlanks rfl ⟨⟨rfl, rfl⟩, Nat.le_of_ble_eq_true rfl, Nat.le_of_ble_eq_true rfl⟩ hl.1 rfl (Nat.le_of_ble_eq_true rfl) dX6_readNumber_1 hf (fun o ho => c_X6_skipBlanks l X hinj hZ N S c0 i0 o ho) (fun S1 H locs hf hw => ?_)
  refine lv_aload_n C.1.1 C.1.2.1 dX6_readNumber_4 rfl (lv_at hl 0 rfl) ?_
  refine r_getI (k := 1) C hw (is6_s i0) (is6_l i0) cO6 rfl (by decide) tw1_55 rfl dX6_readNumber_5 hf (fun v5 hf => ?_)
  refine lv_istore_n (lv' := [(3, .int (iz v5)), (0, .ref (X.2.2 c0)), (1, .int (iz a1)), (2, .int (iz a2))]) C.1.1 C.1.2.1 dX6_readNumber_8 rfl hl (by decide) rfl (fun ls hl => ?_)
  refine lv_iload_n C.1.1 C.1.2.1 dX6_readNumber_9 rfl (lv_at hl 2 rfl) ?_
  refine r_if_ge C (tgt := 33) dX6_readNumber_10 (by decide) hf (fun hf => ?_) (fun hf => ?_)
  · exact (w_X6_readNumber_33 l hinj hZ C out c0 i0 N) a1 a2 v5 S1 H locs ls hf hw (lv_sub hl [1, 2, 3, 0] rfl)
  · refine lv_aload_n C.1.1 C.1.2.1 dX6_readNumber_13 rfl (lv_at hl 1 rfl) ?_
    refine r_getR (k := 0) C hw (is6_s i0) (is6_l i0) cO6 rfl (by decide) tw1_53 rfl dX6_readNumber_14 ?_
    refine lv_aload_n C.1.1 C.1.2.1 dX6_readNumber_17 rfl (lv_at hl 1 rfl) ?_
    refine r_getI (k := 1) C hw (is6_s i0) (is6_l i0) cO6 rfl (by decide) tw1_55 rfl dX6_readNumber_18 hf (fun v18 hf => ?_)
    refine r_callI (As := [.int (iz v18)]) (rest := []) (rm := rmX9_byteAt) C hw (is9_s (is6_o1 i0)) (is9_l (is6_o1 i0)) cO9 tw2_143 tw2_144 tw2_145 tw1_3 tw2_146 hd_X9_byteAt rfl ⟨⟨rfl, rfl⟩, Nat.le_of_ble_eq_true rfl, Nat.le_of_ble_eq_true rfl⟩ hl.1 rfl (Nat.le_of_ble_eq_true rfl) dX6_readNumber_21 hf (fun o ho => c_X9_byteAt l X hinj hZ N S1 (c0 + 1) v18 (is6_o1 i0) o ho) (fun v21 S21 H locs hf hw => ?_)
    refine r_bipush (v := 45) C dX6_readNumber_24 (by decide) ?_
    refine r_icmp_ne C (tgt := 33) dX6_readNumber_26 (by decide) hf (fun hf => ?_) (fun hf => ?_)
    · exact (w_X6_readNumber_33 l hinj hZ C out c0 i0 N) a1 a2 v5 S21 H locs ls hf hw (lv_sub hl [1, 2, 3, 0] rfl)
    · refine r_iconst (v := 1) C dX6_readNumber_29 ?_
      refine lv_goto (tgt := 34) C.1.1 C.1.2.1 dX6_readNumber_30 (by decide) ?_
      exact (w_X6_readNumber_34 l hinj hZ C out c0 i0 N) a1 a2 v5 1 S21 H locs ls hf hw (lv_sub hl [1, 2, 3, 0] rfl)
def f_X6_readSamples_81 (c0 : Nat) (c1 : Nat) (N : Nat) (S : S2) : Option (Int × S2) := rZ 1 S
def f_X6_readSamples_66 (c0 : Nat) (c1 : Nat) (N : Nat) (x2 : Int) (S : S2) : Option (Int × S2) := cI x2 0 (if x2 = 0 then (f_X6_readSamples_81 c0 c1 N) S else gI S c0 1 fun v72 => bI (f_X6_fail N S c0 v72) fun v75 S75 => cI v75 0 (if v75 = 0 then rZ 0 S75 else (f_X6_readSamples_81 c0 c1 N) S75))
def f_X6_readSamples_4 (c0 : Nat) (c1 : Nat) (k66 : Int → S2 → Option (Int × S2)) : Nat → Int → Int → S2 → Option (Int × S2)
  | 0, _, _, _ => none
  | N + 1, x2, x3, S => cI x2 0 (if x2 = 0 then k66 x2 S else cI x3 48 (if 48 ≤ x3 then k66 x2 S else bI (f_X6_readNumber N S c0 0 999) fun v19 S19 => cI v19 0 (if v19 = 0 then rZ 0 S19 else gI S19 c0 3 fun v33 => sI S19 (c1 + 1) 48 x3 v33 fun S36 => uI S36 c1 1 (x3 + 1) fun S41 => bV (f_X6_skipBlanks N S41 c0) fun S45 => gI S45 c0 1 fun v53 => bI (f_X9_isDigit N S45 (c0 + 1) v53) fun v56 S56 => (f_X6_readSamples_4 c0 c1 k66 N) v56 (x3 + 1) S56)))
def f_X6_readSamples (N : Nat) (S : S2) (c0 : Nat) (c1 : Nat) : Option (Int × S2) := (f_X6_readSamples_4 c0 c1 (f_X6_readSamples_66 c0 c1 N) N) 1 0 S
abbrev rmX6_readSamples : Room := { frames := 3, cells := 0, slots := 0, locals := 69 }
theorem hd_X6_readSamples : yX6_readSamples.cls ≠ "java/lang/invoke/MethodHandle" ∧ yX6_readSamples.cls ≠ "java/lang/invoke/VarHandle" ∧ (parseMethodDescriptor yX6_readSamples.desc).map (fun d => d.parameters.length) = some 1 := by decide +kernel
set_option maxRecDepth 100000 in
set_option maxHeartbeats 4000000 in
theorem w_X6_readSamples_81 {p : Program} (l : Launch) {e : Env} {s : State} {m : MethodId} {args : Array Value} {below : List Frame} {meth : Method} {c : Code} {X : XT} (hinj : XInj X nC) (hZ : ZOK (Zc X)) (C : CX p s m args meth c cX6_readSamples 4 RX6 (some .boolean) X nC (Zc X)) (out : Int × S2) (c0 : Nat) (c1 : Nat) (i0 : Is6 c0) (i1 : Is0 c1) : ∀ (N : Nat), ∀ (S : S2) (H : Heap) (locs : List Loc) (ls : Array Slot), f_X6_readSamples_81 c0 c1 N S = some out → WH X shC nC s S H locs → lv_has ls 4 [] → W p l e rmX6_readSamples s m args below meth c H locs 0 0 (QI X shC nC s args below out) (F0 m 81 ls []) := by
  intro N S H locs ls hf hw hl
  unfold f_X6_readSamples_81 at hf
  refine r_iconst (v := 1) C dX6_readSamples_81 ?_
  refine lv_goto (tgt := 86) C.1.1 C.1.2.1 dX6_readSamples_82 (by decide) ?_
  exact r_retZ C hw dX6_readSamples_86 hf
set_option maxRecDepth 100000 in
set_option maxHeartbeats 4000000 in
theorem w_X6_readSamples_66 {p : Program} (l : Launch) {e : Env} {s : State} {m : MethodId} {args : Array Value} {below : List Frame} {meth : Method} {c : Code} {X : XT} (hinj : XInj X nC) (hZ : ZOK (Zc X)) (C : CX p s m args meth c cX6_readSamples 4 RX6 (some .boolean) X nC (Zc X)) (out : Int × S2) (c0 : Nat) (c1 : Nat) (i0 : Is6 c0) (i1 : Is0 c1) : ∀ (N : Nat), ∀ (x2 : Int) (S : S2) (H : Heap) (locs : List Loc) (ls : Array Slot), f_X6_readSamples_66 c0 c1 N x2 S = some out → WH X shC nC s S H locs → lv_has ls 4 [(0, .ref (X.2.2 c0)), (2, .int (iz x2))] → W p l e rmX6_readSamples s m args below meth c H locs 0 0 (QI X shC nC s args below out) (F0 m 66 ls []) := by
  intro N x2 S H locs ls hf hw hl
  unfold f_X6_readSamples_66 at hf
  refine lv_iload_n C.1.1 C.1.2.1 dX6_readSamples_66 rfl (lv_at hl 1 rfl) ?_
  refine r_if_eq C (tgt := 81) dX6_readSamples_67 (by decide) hf (fun hf => ?_) (fun hf => ?_)
  · exact (w_X6_readSamples_81 l hinj hZ C out c0 c1 i0 i1 N) S H locs ls hf hw (lv_sub hl [] rfl)
  · refine lv_aload_n C.1.1 C.1.2.1 dX6_readSamples_70 rfl (lv_at hl 0 rfl) ?_
    refine lv_aload_n C.1.1 C.1.2.1 dX6_readSamples_71 rfl (lv_at hl 0 rfl) ?_
    refine r_getI (k := 1) C hw (is6_s i0) (is6_l i0) cO6 rfl (by decide) tw1_55 rfl dX6_readSamples_72 hf (fun v72 hf => ?_)
    refine r_callI (As := [.int (iz v72)]) (rest := []) (rm := rmX6_fail) C hw (is6_s i0) (is6_l i0) cO6 tw2_152 tw2_154 tp_4 tw1_2 tw2_155 hd_X6_fail rfl ⟨⟨rfl, rfl⟩, Nat.le_of_ble_eq_true rfl, Nat.le_of_ble_eq_true rfl⟩ hl.1 rfl (Nat.le_of_ble_eq_true rfl) dX6_readSamples_75 hf (fun o ho => c_X6_fail l X hinj hZ N S c0 v72 i0 o ho) (fun v75 S75 H locs hf hw => ?_)
    refine r_if_eq C (tgt := 85) dX6_readSamples_78 (by decide) hf (fun hf => ?_) (fun hf => ?_)
    · refine r_iconst (v := 0) C dX6_readSamples_85 ?_
      exact r_retZ C hw dX6_readSamples_86 hf
    · exact (w_X6_readSamples_81 l hinj hZ C out c0 c1 i0 i1 N) S75 H locs ls hf hw (lv_sub hl [] rfl)
set_option maxRecDepth 100000 in
set_option maxHeartbeats 4000000 in
theorem w_X6_readSamples_4 {p : Program} (l : Launch) {e : Env} {s : State} {m : MethodId} {args : Array Value} {below : List Frame} {meth : Method} {c : Code} {X : XT} (hinj : XInj X nC) (hZ : ZOK (Zc X)) (C : CX p s m args meth c cX6_readSamples 4 RX6 (some .boolean) X nC (Zc X)) (out : Int × S2) (c0 : Nat) (c1 : Nat) (i0 : Is6 c0) (i1 : Is0 c1) (k66 : Int → S2 → Option (Int × S2)) (hk66 : ∀ (x2 : Int) (S : S2) (H : Heap) (locs : List Loc) (ls : Array Slot), k66 x2 S = some out → WH X shC nC s S H locs → lv_has ls 4 [(0, .ref (X.2.2 c0)), (2, .int (iz x2))] → W p l e rmX6_readSamples s m args below meth c H locs 0 0 (QI X shC nC s args below out) (F0 m 66 ls [])) : ∀ (N : Nat), ∀ (x2 : Int) (x3 : Int) (S : S2) (H : Heap) (locs : List Loc) (ls : Array Slot), f_X6_readSamples_4 c0 c1 k66 N x2 x3 S = some out → WH X shC nC s S H locs → lv_has ls 4 [(0, .ref (X.2.2 c0)), (1, .ref (X.2.2 c1)), (2, .int (iz x2)), (3, .int (iz x3))] → W p l e rmX6_readSamples s m args below meth c H locs 0 0 (QI X shC nC s args below out) (F0 m 4 ls []) := by
  intro N
  induction N with
  | zero => intro x2 x3 S H locs ls hf hw hl; cases hf
  | succ N ih =>
    intro x2 x3 S H locs ls hf hw hl
    rw [f_X6_readSamples_4.eq_2] at hf
    refine lv_iload_n C.1.1 C.1.2.1 dX6_readSamples_4 rfl (lv_at hl 2 rfl) ?_
    refine r_if_eq C (tgt := 66) dX6_readSamples_5 (by decide) hf (fun hf => ?_) (fun hf => ?_)
    · exact hk66 x2 S H locs ls hf hw (lv_sub hl [0, 2] rfl)
    · refine lv_iload_n C.1.1 C.1.2.1 dX6_readSamples_8 rfl (lv_at hl 3 rfl) ?_
      refine r_bipush (v := 48) C dX6_readSamples_9 (by decide) ?_
      refine r_icmp_ge C (tgt := 66) dX6_readSamples_11 (by decide) hf (fun hf => ?_) (fun hf => ?_)
      · exact hk66 x2 S H locs ls hf hw (lv_sub hl [0, 2] rfl)
      · refine lv_aload_n C.1.1 C.1.2.1 dX6_readSamples_14 rfl (lv_at hl 0 rfl) ?_
        refine r_iconst (v := 0) C dX6_readSamples_15 ?_
        refine r_sipush (v := 999) C dX6_readSamples_16 (by decide) ?_
        refine r_callI (As := [.int (iz 0), .int (iz 999)]) (rest := []) (rm := rmX6_readNumber) C hw (is6_s i0) (is6_l i0) cO6 tw2_213 tw2_215 tp_7 tw1_2 tw2_216 hd_X6_readNumber rfl ⟨⟨rfl, rfl⟩, Nat.le_of_ble_eq_true rfl, Nat.le_of_ble_eq_true rfl⟩ hl.1 rfl (Nat.le_of_ble_eq_true rfl) dX6_readSamples_19 hf (fun o ho => c_X6_readNumber l X hinj hZ N S c0 0 999 i0 o ho) (fun v19 S19 H locs hf hw => ?_)
        refine r_if_ne C (tgt := 27) dX6_readSamples_22 (by decide) hf (fun hf => ?_) (fun hf => ?_)
        · refine lv_aload_n C.1.1 C.1.2.1 dX6_readSamples_27 rfl (lv_at hl 1 rfl) ?_
          refine r_getR (k := 0) C hw (is0_s i1) (is0_l i1) cO0 rfl (by decide) tw1_88 rfl dX6_readSamples_28 ?_
          refine lv_iload_n C.1.1 C.1.2.1 dX6_readSamples_31 rfl (lv_at hl 3 rfl) ?_
          refine lv_aload_n C.1.1 C.1.2.1 dX6_readSamples_32 rfl (lv_at hl 0 rfl) ?_
          refine r_getI (k := 3) C hw (is6_s i0) (is6_l i0) cO6 rfl (by decide) tw1_57 rfl dX6_readSamples_33 hf (fun v33 hf => ?_)
          refine r_iast C hw (is0_s1 i1) (is0_l1 i1) (Nat.le_of_ble_eq_true rfl) dX6_readSamples_36 hf (fun S36 H locs hf hw => ?_)
          refine lv_aload_n C.1.1 C.1.2.1 dX6_readSamples_37 rfl (lv_at hl 1 rfl) ?_
          refine lv_iload_n C.1.1 C.1.2.1 dX6_readSamples_38 rfl (lv_at hl 3 rfl) ?_
          refine r_iconst (v := 1) C dX6_readSamples_39 ?_
          refine r_iadd C dX6_readSamples_40 ?_
          refine r_putI (k := 1) C hw (is0_s i1) (is0_l i1) cO0 rfl (by decide) tw1_90 rfl rfl rfl dX6_readSamples_41 hf (fun S41 H locs hf hw => ?_)
          refine lv_aload_n C.1.1 C.1.2.1 dX6_readSamples_44 rfl (lv_at hl 0 rfl) ?_
          refine r_callV (As := []) (rest := []) (rm := rmX6_skipBlanks) C hw (is6_s i0) (is6_l i0) cO6 tw2_139 tw2_141 tp_3 tw1_2 tw2_142 hd_X6_skipBlanks rfl ⟨⟨rfl, rfl⟩, Nat.le_of_ble_eq_true rfl, Nat.le_of_ble_eq_true rfl⟩ hl.1 rfl (Nat.le_of_ble_eq_true rfl) dX6_readSamples_45 hf (fun o ho => c_X6_skipBlanks l X hinj hZ N S41 c0 i0 o ho) (fun S45 H locs hf hw => ?_)
          refine lv_aload_n C.1.1 C.1.2.1 dX6_readSamples_48 rfl (lv_at hl 0 rfl) ?_
          refine r_getR (k := 0) C hw (is6_s i0) (is6_l i0) cO6 rfl (by decide) tw1_53 rfl dX6_readSamples_49 ?_
          refine lv_aload_n C.1.1 C.1.2.1 dX6_readSamples_52 rfl (lv_at hl 0 rfl) ?_
          refine r_getI (k := 1) C hw (is6_s i0) (is6_l i0) cO6 rfl (by decide) tw1_55 rfl dX6_readSamples_53 hf (fun v53 hf => ?_)
          refine r_callI (As := [.int (iz v53)]) (rest := []) (rm := rmX9_isDigit) C hw (is9_s (is6_o1 i0)) (is9_l (is6_o1 i0)) cO9 tw2_217 tw2_218 tw2_219 tw1_3 tw2_220 hd_X9_isDigit rfl ⟨⟨rfl, rfl⟩, Nat.le_of_ble_eq_true rfl, Nat.le_of_ble_eq_true rfl⟩ hl.1 rfl (Nat.le_of_ble_eq_true rfl) dX6_readSamples_56 hf (fun o ho => c_X9_isDigit l X hinj hZ N S45 (c0 + 1) v53 (is6_o1 i0) o ho) (fun v56 S56 H locs hf hw => ?_)
          refine lv_istore_n (lv' := [(2, .int (iz v56)), (0, .ref (X.2.2 c0)), (1, .ref (X.2.2 c1)), (3, .int (iz x3))]) C.1.1 C.1.2.1 dX6_readSamples_59 rfl hl (by decide) rfl (fun ls hl => ?_)
          refine lv_iinc (v := iz (x3 + 1)) (lv' := [(3, .int (iz (x3 + 1))), (2, .int (iz v56)), (0, .ref (X.2.2 c0)), (1, .ref (X.2.2 c1))]) C.1.1 C.1.2.1 dX6_readSamples_60 hl (k := 3) rfl (iz_add _ _) (by decide) rfl (fun ls hl => ?_)
          refine lv_goto (tgt := 4) C.1.1 C.1.2.1 dX6_readSamples_63 (by decide) ?_
          exact ih v56 (x3 + 1) S56 H locs ls hf hw (lv_sub hl [2, 3, 1, 0] rfl)
        · refine r_iconst (v := 0) C dX6_readSamples_25 ?_
          exact r_retZ C hw dX6_readSamples_26 hf
set_option maxRecDepth 100000 in
set_option maxHeartbeats 4000000 in
theorem c_X6_readSamples (l : Launch) (X : XT) (hinj : XInj X nC) (hZ : ZOK (Zc X)) (N : Nat) (S : S2) (c0 : Nat) (c1 : Nat) (i0 : Is6 c0) (i1 : Is0 c1) (out : Int × S2) (hf : f_X6_readSamples N S c0 c1 = some out) : MI l X shC nC (Zc X) yX6_readSamples cX6_readSamples 4 (some .boolean) rmX6_readSamples [.ref (X.2.2 c0), .ref (X.2.2 c1)] S out := by
  refine met_I (own := RX6) (by decide) rfl hinj hZ (Nat.le_of_ble_eq_true rfl) (fun p e s m args below meth c C ls H locs hw hl => ?_)
  unfold f_X6_readSamples at hf
  have hl : lv_has ls 4 [(0, .ref (X.2.2 c0)), (1, .ref (X.2.2 c1))] := hl
  refine r_iconst (v := 1) C dX6_readSamples_0 ?_
  refine lv_istore_n (lv' := [(2, .int (iz 1)), (0, .ref (X.2.2 c0)), (1, .ref (X.2.2 c1))]) C.1.1 C.1.2.1 dX6_readSamples_1 rfl hl (by decide) rfl (fun ls hl => ?_)
  refine r_iconst (v := 0) C dX6_readSamples_2 ?_
  refine lv_istore_n (lv' := [(3, .int (iz 0)), (2, .int (iz 1)), (0, .ref (X.2.2 c0)), (1, .ref (X.2.2 c1))]) C.1.1 C.1.2.1 dX6_readSamples_3 rfl hl (by decide) rfl (fun ls hl => ?_)
  exact (w_X6_readSamples_4 l hinj hZ C out c0 c1 i0 i1 (f_X6_readSamples_66 c0 c1 N) (w_X6_readSamples_66 l hinj hZ C out c0 c1 i0 i1 N) N) 1 0 S H locs ls hf hw (lv_sub hl [2, 3, 1, 0] rfl)
def f_X7_refusalOf (N : Nat) (S : S2) (c0 : Nat) (a1 : Int) (c1 : Nat) : Option (Int × S2) := aI S (c0 + 1) 12 a1 fun v6 => aI S (c0 + 2) 12 a1 fun v12 => aI S (c0 + 3) 12 a1 fun v18 => bI (f_X0_refusal N S c1 v6 v12 v18) fun v19 S19 => rI v19 S19
abbrev rmX7_refusalOf : Room := { frames := 2, cells := 0, slots := 0, locals := 47 }
theorem hd_X7_refusalOf : yX7_refusalOf.cls ≠ "java/lang/invoke/MethodHandle" ∧ yX7_refusalOf.cls ≠ "java/lang/invoke/VarHandle" ∧ (parseMethodDescriptor yX7_refusalOf.desc).map (fun d => d.parameters.length) = some 2 := by decide +kernel
set_option maxRecDepth 100000 in
set_option maxHeartbeats 4000000 in
theorem c_X7_refusalOf (l : Launch) (X : XT) (hinj : XInj X nC) (hZ : ZOK (Zc X)) (N : Nat) (S : S2) (c0 : Nat) (a1 : Int) (c1 : Nat) (i0 : Is7 c0) (i1 : Is0 c1) (out : Int × S2) (hf : f_X7_refusalOf N S c0 a1 c1 = some out) : MI l X shC nC (Zc X) yX7_refusalOf cX7_refusalOf 3 (some .int) rmX7_refusalOf [.ref (X.2.2 c0), .int (iz a1), .ref (X.2.2 c1)] S out := by
  refine met_I (own := RX7) (by decide) rfl hinj hZ (Nat.le_of_ble_eq_true rfl) (fun p e s m args below meth c C ls H locs hw hl => ?_)
  unfold f_X7_refusalOf at hf
  have hl : lv_has ls 3 [(0, .ref (X.2.2 c0)), (1, .int (iz a1)), (2, .ref (X.2.2 c1))] := hl
  refine lv_aload_n C.1.1 C.1.2.1 dX7_refusalOf_0 rfl (lv_at hl 2 rfl) ?_
  refine lv_aload_n C.1.1 C.1.2.1 dX7_refusalOf_1 rfl (lv_at hl 0 rfl) ?_
  refine r_getR (k := 1) C hw (is7_s i0) (is7_l i0) cO7 rfl (by decide) tw2_5 rfl dX7_refusalOf_2 ?_
  refine lv_iload_n C.1.1 C.1.2.1 dX7_refusalOf_5 rfl (lv_at hl 1 rfl) ?_
  refine r_iald C hw (is7_s1 i0) (is7_l1 i0) (Nat.le_of_ble_eq_true rfl) dX7_refusalOf_6 hf (fun v6 hf => ?_)
  refine lv_aload_n C.1.1 C.1.2.1 dX7_refusalOf_7 rfl (lv_at hl 0 rfl) ?_
  refine r_getR (k := 2) C hw (is7_s i0) (is7_l i0) cO7 rfl (by decide) tw2_7 rfl dX7_refusalOf_8 ?_
  refine lv_iload_n C.1.1 C.1.2.1 dX7_refusalOf_11 rfl (lv_at hl 1 rfl) ?_
  refine r_iald C hw (is7_s2 i0) (is7_l2 i0) (Nat.le_of_ble_eq_true rfl) dX7_refusalOf_12 hf (fun v12 hf => ?_)
  refine lv_aload_n C.1.1 C.1.2.1 dX7_refusalOf_13 rfl (lv_at hl 0 rfl) ?_
  refine r_getR (k := 3) C hw (is7_s i0) (is7_l i0) cO7 rfl (by decide) tw2_9 rfl dX7_refusalOf_14 ?_
  refine lv_iload_n C.1.1 C.1.2.1 dX7_refusalOf_17 rfl (lv_at hl 1 rfl) ?_
  refine r_iald C hw (is7_s3 i0) (is7_l3 i0) (Nat.le_of_ble_eq_true rfl) dX7_refusalOf_18 hf (fun v18 hf => ?_)
  refine r_callI (As := [.int (iz v6), .int (iz v12), .int (iz v18)]) (rest := []) (rm := rmX0_refusal) C hw (is0_s i1) (is0_l i1) cO0 tw5_8 tw3_235 tw3_236 tw1_4 tw3_237 hd_X0_refusal rfl ⟨⟨rfl, rfl⟩, Nat.le_of_ble_eq_true rfl, Nat.le_of_ble_eq_true rfl⟩ hl.1 rfl (Nat.le_of_ble_eq_true rfl) dX7_refusalOf_19 hf (fun o ho => c_X0_refusal l X hinj hZ N S c1 v6 v12 v18 i1 o ho) (fun v19 S19 H locs hf hw => ?_)
  exact r_retI C hw dX7_refusalOf_22 hf
def f_X10_line (N : Nat) (S : S2) (a1 : Int) (a2 : Int) : Option (Int × S2) := cI a1 0 (if a1 < 0 then rI (-1) S else gI S 20 0 fun v9 => cI a1 v9 (if a1 < v9 then cI a2 0 (if a2 = 0 then aI S (20 + 1) 8 a1 fun v52 => rI v52 S else (if a2 = 1 then bI (f_X3_match N S 20 6 0) fun v63 S63 => aI S63 (20 + 3) 8 a1 fun v75 => rI v75 S63 else (if a2 = 2 then aI S (20 + 2) 8 a1 fun v85 => rI v85 S else rI (-1) S))) else rI (-1) S))
abbrev rmX10_line : Room := { frames := 3, cells := 0, slots := 0, locals := 70 }
theorem hd_X10_line : yX10_line.cls ≠ "java/lang/invoke/MethodHandle" ∧ yX10_line.cls ≠ "java/lang/invoke/VarHandle" ∧ (parseMethodDescriptor yX10_line.desc).map (fun d => d.parameters.length) = some 2 := by decide +kernel
set_option maxRecDepth 100000 in
set_option maxHeartbeats 4000000 in
theorem c_X10_line (l : Launch) (X : XT) (hinj : XInj X nC) (hZ : ZOK (Zc X)) (N : Nat) (S : S2) (a1 : Int) (a2 : Int) (out : Int × S2) (hf : f_X10_line N S a1 a2 = some out) : MI l X shC nC (Zc X) yX10_line cX10_line 3 (some .int) rmX10_line [.ref (X.2.2 0), .int (iz a1), .int (iz a2)] S out := by
  refine met_I (own := RX10) (by decide) rfl hinj hZ (Nat.le_of_ble_eq_true rfl) (fun p e s m args below meth c C ls H locs hw hl => ?_)
  unfold f_X10_line at hf
  have hl : lv_has ls 3 [(0, .ref (X.2.2 0)), (1, .int (iz a1)), (2, .int (iz a2))] := hl
  refine lv_iload_n C.1.1 C.1.2.1 dX10_line_0 rfl (lv_at hl 1 rfl) ?_
  refine r_if_lt C (tgt := 15) dX10_line_1 (by decide) hf (fun hf => ?_) (fun hf => ?_)
  · refine r_iconst (v := (-1)) C dX10_line_15 ?_
    exact r_retI C hw dX10_line_16 hf
  · refine lv_iload_n C.1.1 C.1.2.1 dX10_line_4 rfl (lv_at hl 1 rfl) ?_
    refine lv_aload_n C.1.1 C.1.2.1 dX10_line_5 rfl (lv_at hl 0 rfl) ?_
    refine r_getR (k := 4) C hw shC_0 ltC_0 cO10 rfl (by decide) tw2_50 rfl dX10_line_6 ?_
    refine r_getI (k := 0) C hw (is3_s is3_at20) (is3_l is3_at20) cO3 rfl (by decide) tw1_168 rfl dX10_line_9 hf (fun v9 hf => ?_)
    refine r_icmp_lt C (tgt := 17) dX10_line_12 (by decide) hf (fun hf => ?_) (fun hf => ?_)
    · refine lv_iload_n C.1.1 C.1.2.1 dX10_line_17 rfl (lv_at hl 2 rfl) ?_
      obtain ⟨⟨hsw, -⟩, hf⟩ := cI_some hf
      rcases ite_some hf with ⟨hc18_0, hf⟩ | ⟨hc18_0, hf⟩
      · refine lv_tableIn (tgt := 44) C.1.1 C.1.2.1 dX10_line_18 (by rw [hc18_0]; decide) (by rw [hc18_0]; decide) (by rw [hc18_0]; rfl) (by decide) ?_
        refine lv_aload_n C.1.1 C.1.2.1 dX10_line_44 rfl (lv_at hl 0 rfl) ?_
        refine r_getR (k := 4) C hw shC_0 ltC_0 cO10 rfl (by decide) tw2_50 rfl dX10_line_45 ?_
        refine r_getR (k := 2) C hw (is3_s is3_at20) (is3_l is3_at20) cO3 rfl (by decide) tw1_173 rfl dX10_line_48 ?_
        refine lv_iload_n C.1.1 C.1.2.1 dX10_line_51 rfl (lv_at hl 1 rfl) ?_
        refine r_iald C hw (is3_s1 is3_at20) (is3_l1 is3_at20) (Nat.le_of_ble_eq_true rfl) dX10_line_52 hf (fun v52 hf => ?_)
        exact r_retI C hw dX10_line_53 hf
      · skip
        rcases ite_some hf with ⟨hc18_1, hf⟩ | ⟨hc18_1, hf⟩
        · refine lv_tableIn (tgt := 54) C.1.1 C.1.2.1 dX10_line_18 (by rw [hc18_1]; decide) (by rw [hc18_1]; decide) (by rw [hc18_1]; rfl) (by decide) ?_
          refine lv_aload_n C.1.1 C.1.2.1 dX10_line_54 rfl (lv_at hl 0 rfl) ?_
          refine r_getR (k := 4) C hw shC_0 ltC_0 cO10 rfl (by decide) tw2_50 rfl dX10_line_55 ?_
          refine lv_aload_n C.1.1 C.1.2.1 dX10_line_58 rfl (lv_at hl 0 rfl) ?_
          refine r_getR (k := 3) C hw shC_0 ltC_0 cO10 rfl (by decide) tw2_49 rfl dX10_line_59 ?_
          refine r_iconst (v := 0) C dX10_line_62 ?_
          refine r_callI (As := [.ref (X.2.2 6), .int (iz 0)]) (rest := []) (rm := rmX3_match) C hw (is3_s is3_at20) (is3_l is3_at20) cO3 tw3_214 tw3_215 tw3_216 tw1_6 tw3_217 hd_X3_match rfl ⟨⟨rfl, rfl⟩, Nat.le_of_ble_eq_true rfl, Nat.le_of_ble_eq_true rfl⟩ hl.1 rfl (Nat.le_of_ble_eq_true rfl) dX10_line_63 hf (fun o ho => c_X3_match l X hinj hZ N S 20 6 0 is3_at20 is5_at6 o ho) (fun v63 S63 H locs hf hw => ?_)
          refine lv_pop C.1.1 C.1.2.1 dX10_line_66 rfl ?_
          refine lv_aload_n C.1.1 C.1.2.1 dX10_line_67 rfl (lv_at hl 0 rfl) ?_
          refine r_getR (k := 4) C hw shC_0 ltC_0 cO10 rfl (by decide) tw2_50 rfl dX10_line_68 ?_
          refine r_getR (k := 4) C hw (is3_s is3_at20) (is3_l is3_at20) cO3 rfl (by decide) tw1_178 rfl dX10_line_71 ?_
          refine lv_iload_n C.1.1 C.1.2.1 dX10_line_74 rfl (lv_at hl 1 rfl) ?_
          refine r_iald C hw (is3_s3 is3_at20) (is3_l3 is3_at20) (Nat.le_of_ble_eq_true rfl) dX10_line_75 hf (fun v75 hf => ?_)
          exact r_retI C hw dX10_line_76 hf
        · skip
          rcases ite_some hf with ⟨hc18_2, hf⟩ | ⟨hc18_2, hf⟩
          · refine lv_tableIn (tgt := 77) C.1.1 C.1.2.1 dX10_line_18 (by rw [hc18_2]; decide) (by rw [hc18_2]; decide) (by rw [hc18_2]; rfl) (by decide) ?_
            refine lv_aload_n C.1.1 C.1.2.1 dX10_line_77 rfl (lv_at hl 0 rfl) ?_
            refine r_getR (k := 4) C hw shC_0 ltC_0 cO10 rfl (by decide) tw2_50 rfl dX10_line_78 ?_
            refine r_getR (k := 3) C hw (is3_s is3_at20) (is3_l is3_at20) cO3 rfl (by decide) tw1_176 rfl dX10_line_81 ?_
            refine lv_iload_n C.1.1 C.1.2.1 dX10_line_84 rfl (lv_at hl 1 rfl) ?_
            refine r_iald C hw (is3_s2 is3_at20) (is3_l2 is3_at20) (Nat.le_of_ble_eq_true rfl) dX10_line_85 hf (fun v85 hf => ?_)
            exact r_retI C hw dX10_line_86 hf
          · skip
            refine lv_tableOut (tgt := 87) C.1.1 C.1.2.1 dX10_line_18 (by rw [sw_in hsw]; omega) (by decide) ?_
            refine r_iconst (v := (-1)) C dX10_line_87 ?_
            exact r_retI C hw dX10_line_88 hf
    · refine r_iconst (v := (-1)) C dX10_line_15 ?_
      exact r_retI C hw dX10_line_16 hf
def f_X10_shift_107 (N : Nat) (x1 : Int) (x2 : Int) (x3 : Int) (S : S2) : Option (Int × S2) := cI x1 0 (if x1 = 0 then rI x2 S else rI x3 S)
def f_X10_shift_101 (k38 : Int → Int → Int → Int → S2 → Option (Int × S2)) (N : Nat) (x1 : Int) (x2 : Int) (x3 : Int) (x4 : Int) (S : S2) : Option (Int × S2) := k38 x1 x2 x3 (x4 + 1) S
def f_X10_shift_74 (k38 : Int → Int → Int → Int → S2 → Option (Int × S2)) (N : Nat) (x1 : Int) (x2 : Int) (x3 : Int) (x4 : Int) (S : S2) : Option (Int × S2) := bI (f_X3_match N S 20 6 x4) fun v84 S84 => cI v84 x3 (if v84 ≤ x3 then (f_X10_shift_101 k38 N) x1 x2 x3 x4 S84 else (f_X10_shift_101 k38 N) x1 x4 v84 x4 S84)
def f_X10_shift_38 (k107 : Int → Int → Int → S2 → Option (Int × S2)) : Nat → Int → Int → Int → Int → S2 → Option (Int × S2)
  | 0, _, _, _, _, _ => none
  | N + 1, x1, x2, x3, x4, S => cI x4 9 (if 9 < x4 then k107 x1 x2 x3 S else bI (f_X3_match N S 20 6 (-x4)) fun v56 S56 => cI v56 x3 (if v56 ≤ x3 then (f_X10_shift_74 (f_X10_shift_38 k107 N) N) x1 x2 x3 x4 S56 else (f_X10_shift_74 (f_X10_shift_38 k107 N) N) x1 (-x4) v56 x4 S56))
def f_X10_shift (N : Nat) (S : S2) (a1 : Int) : Option (Int × S2) := bI (f_X10_noTrace N S) fun v1 S1 => cI v1 0 (if v1 = 0 then cI a1 0 (if a1 < 0 then rI (-1000000) S1 else cI a1 1 (if a1 ≤ 1 then bI (f_X3_match N S1 20 6 0) fun v31 S31 => (f_X10_shift_38 (f_X10_shift_107 N) N) a1 0 v31 1 S31 else rI (-1000000) S1)) else rI (-1000000) S1)
abbrev rmX10_shift : Room := { frames := 3, cells := 0, slots := 0, locals := 70 }
theorem hd_X10_shift : yX10_shift.cls ≠ "java/lang/invoke/MethodHandle" ∧ yX10_shift.cls ≠ "java/lang/invoke/VarHandle" ∧ (parseMethodDescriptor yX10_shift.desc).map (fun d => d.parameters.length) = some 1 := by decide +kernel
set_option maxRecDepth 100000 in
set_option maxHeartbeats 4000000 in
theorem w_X10_shift_107 {p : Program} (l : Launch) {e : Env} {s : State} {m : MethodId} {args : Array Value} {below : List Frame} {meth : Method} {c : Code} {X : XT} (hinj : XInj X nC) (hZ : ZOK (Zc X)) (C : CX p s m args meth c cX10_shift 7 RX10 (some .int) X nC (Zc X)) (out : Int × S2) : ∀ (N : Nat), ∀ (x1 : Int) (x2 : Int) (x3 : Int) (S : S2) (H : Heap) (locs : List Loc) (ls : Array Slot), f_X10_shift_107 N x1 x2 x3 S = some out → WH X shC nC s S H locs → lv_has ls 7 [(1, .int (iz x1)), (2, .int (iz x2)), (3, .int (iz x3))] → W p l e rmX10_shift s m args below meth c H locs 0 0 (QI X shC nC s args below out) (F0 m 107 ls []) := by
  intro N x1 x2 x3 S H locs ls hf hw hl
  unfold f_X10_shift_107 at hf
  refine lv_iload_n C.1.1 C.1.2.1 dX10_shift_107 rfl (lv_at hl 0 rfl) ?_
  refine r_if_ne C (tgt := 115) dX10_shift_108 (by decide) hf (fun hf => ?_) (fun hf => ?_)
  · refine lv_iload_n C.1.1 C.1.2.1 dX10_shift_115 rfl (lv_at hl 2 rfl) ?_
    exact r_retI C hw dX10_shift_116 hf
  · refine lv_iload_n C.1.1 C.1.2.1 dX10_shift_111 rfl (lv_at hl 1 rfl) ?_
    refine lv_goto (tgt := 116) C.1.1 C.1.2.1 dX10_shift_112 (by decide) ?_
    exact r_retI C hw dX10_shift_116 hf
set_option maxRecDepth 100000 in
set_option maxHeartbeats 4000000 in
theorem w_X10_shift_101 {p : Program} (l : Launch) {e : Env} {s : State} {m : MethodId} {args : Array Value} {below : List Frame} {meth : Method} {c : Code} {X : XT} (hinj : XInj X nC) (hZ : ZOK (Zc X)) (C : CX p s m args meth c cX10_shift 7 RX10 (some .int) X nC (Zc X)) (out : Int × S2) (k38 : Int → Int → Int → Int → S2 → Option (Int × S2)) (hk38 : ∀ (x1 : Int) (x2 : Int) (x3 : Int) (x4 : Int) (S : S2) (H : Heap) (locs : List Loc) (ls : Array Slot), k38 x1 x2 x3 x4 S = some out → WH X shC nC s S H locs → lv_has ls 7 [(0, .ref (X.2.2 0)), (1, .int (iz x1)), (2, .int (iz x2)), (3, .int (iz x3)), (4, .int (iz x4))] → W p l e rmX10_shift s m args below meth c H locs 0 0 (QI X shC nC s args below out) (F0 m 38 ls [])) : ∀ (N : Nat), ∀ (x1 : Int) (x2 : Int) (x3 : Int) (x4 : Int) (S : S2) (H : Heap) (locs : List Loc) (ls : Array Slot), f_X10_shift_101 k38 N x1 x2 x3 x4 S = some out → WH X shC nC s S H locs → lv_has ls 7 [(0, .ref (X.2.2 0)), (1, .int (iz x1)), (2, .int (iz x2)), (3, .int (iz x3)), (4, .int (iz x4))] → W p l e rmX10_shift s m args below meth c H locs 0 0 (QI X shC nC s args below out) (F0 m 101 ls []) := by
  intro N x1 x2 x3 x4 S H locs ls hf hw hl
  unfold f_X10_shift_101 at hf
  refine lv_iinc (v := iz (x4 + 1)) (lv' := [(4, .int (iz (x4 + 1))), (0, .ref (X.2.2 0)), (1, .int (iz x1)), (2, .int (iz x2)), (3, .int (iz x3))]) C.1.1 C.1.2.1 dX10_shift_101 hl (k := 4) rfl (iz_add _ _) (by decide) rfl (fun ls hl => ?_)
  refine lv_goto (tgt := 38) C.1.1 C.1.2.1 dX10_shift_104 (by decide) ?_
  exact hk38 x1 x2 x3 (x4 + 1) S H locs ls hf hw (lv_sub hl [1, 2, 3, 4, 0] rfl)
set_option maxRecDepth 100000 in
set_option maxHeartbeats 4000000 in
theorem w_X10_shift_74 {p : Program} (l : Launch) {e : Env} {s : State} {m : MethodId} {args : Array Value} {below : List Frame} {meth : Method} {c : Code} {X : XT} (hinj : XInj X nC) (hZ : ZOK (Zc X)) (C : CX p s m args meth c cX10_shift 7 RX10 (some .int) X nC (Zc X)) (out : Int × S2) (k38 : Int → Int → Int → Int → S2 → Option (Int × S2)) (hk38 : ∀ (x1 : Int) (x2 : Int) (x3 : Int) (x4 : Int) (S : S2) (H : Heap) (locs : List Loc) (ls : Array Slot), k38 x1 x2 x3 x4 S = some out → WH X shC nC s S H locs → lv_has ls 7 [(0, .ref (X.2.2 0)), (1, .int (iz x1)), (2, .int (iz x2)), (3, .int (iz x3)), (4, .int (iz x4))] → W p l e rmX10_shift s m args below meth c H locs 0 0 (QI X shC nC s args below out) (F0 m 38 ls [])) : ∀ (N : Nat), ∀ (x1 : Int) (x2 : Int) (x3 : Int) (x4 : Int) (S : S2) (H : Heap) (locs : List Loc) (ls : Array Slot), f_X10_shift_74 k38 N x1 x2 x3 x4 S = some out → WH X shC nC s S H locs → lv_has ls 7 [(0, .ref (X.2.2 0)), (1, .int (iz x1)), (2, .int (iz x2)), (3, .int (iz x3)), (4, .int (iz x4))] → W p l e rmX10_shift s m args below meth c H locs 0 0 (QI X shC nC s args below out) (F0 m 74 ls []) := by
  intro N x1 x2 x3 x4 S H locs ls hf hw hl
  unfold f_X10_shift_74 at hf
  refine lv_aload_n C.1.1 C.1.2.1 dX10_shift_74 rfl (lv_at hl 0 rfl) ?_
  refine r_getR (k := 4) C hw shC_0 ltC_0 cO10 rfl (by decide) tw2_50 rfl dX10_shift_75 ?_
  refine lv_aload_n C.1.1 C.1.2.1 dX10_shift_78 rfl (lv_at hl 0 rfl) ?_
  refine r_getR (k := 3) C hw shC_0 ltC_0 cO10 rfl (by decide) tw2_49 rfl dX10_shift_79 ?_
  refine lv_iload C.1.1 C.1.2.1 dX10_shift_82 (lv_at hl 4 rfl) ?_
  refine r_callI (As := [.ref (X.2.2 6), .int (iz x4)]) (rest := []) (rm := rmX3_match) C hw (is3_s is3_at20) (is3_l is3_at20) cO3 tw3_214 tw3_215 tw3_216 tw1_6 tw3_217 hd_X3_match rfl ⟨⟨rfl, rfl⟩, Nat.le_of_ble_eq_true rfl, Nat.le_of_ble_eq_true rfl⟩ hl.1 rfl (Nat.le_of_ble_eq_true rfl) dX10_shift_84 hf (fun o ho => c_X3_match l X hinj hZ N S 20 6 x4 is3_at20 is5_at6 o ho) (fun v84 S84 H locs hf hw => ?_)
  refine lv_istore (lv' := [(6, .int (iz v84)), (0, .ref (X.2.2 0)), (1, .int (iz x1)), (2, .int (iz x2)), (3, .int (iz x3)), (4, .int (iz x4))]) C.1.1 C.1.2.1 dX10_shift_87 hl (by decide) rfl (fun ls hl => ?_)
  refine lv_iload C.1.1 C.1.2.1 dX10_shift_89 (lv_at hl 0 rfl) ?_
  refine lv_iload_n C.1.1 C.1.2.1 dX10_shift_91 rfl (lv_at hl 4 rfl) ?_
  refine r_icmp_le C (tgt := 101) dX10_shift_92 (by decide) hf (fun hf => ?_) (fun hf => ?_)
  · exact (w_X10_shift_101 l hinj hZ C out k38 hk38 N) x1 x2 x3 x4 S84 H locs ls hf hw (lv_sub hl [1, 2, 3, 4, 5] rfl)
  · refine lv_iload C.1.1 C.1.2.1 dX10_shift_95 (lv_at hl 0 rfl) ?_
    refine lv_istore_n (lv' := [(3, .int (iz v84)), (6, .int (iz v84)), (0, .ref (X.2.2 0)), (1, .int (iz x1)), (2, .int (iz x2)), (4, .int (iz x4))]) C.1.1 C.1.2.1 dX10_shift_97 rfl hl (by decide) rfl (fun ls hl => ?_)
    refine lv_iload C.1.1 C.1.2.1 dX10_shift_98 (lv_at hl 5 rfl) ?_
    refine lv_istore_n (lv' := [(2, .int (iz x4)), (3, .int (iz v84)), (6, .int (iz v84)), (0, .ref (X.2.2 0)), (1, .int (iz x1)), (4, .int (iz x4))]) C.1.1 C.1.2.1 dX10_shift_100 rfl hl (by decide) rfl (fun ls hl => ?_)
    exact (w_X10_shift_101 l hinj hZ C out k38 hk38 N) x1 x4 v84 x4 S84 H locs ls hf hw (lv_sub hl [3, 4, 0, 1, 5] rfl)
set_option maxRecDepth 100000 in
set_option maxHeartbeats 4000000 in
theorem w_X10_shift_38 {p : Program} (l : Launch) {e : Env} {s : State} {m : MethodId} {args : Array Value} {below : List Frame} {meth : Method} {c : Code} {X : XT} (hinj : XInj X nC) (hZ : ZOK (Zc X)) (C : CX p s m args meth c cX10_shift 7 RX10 (some .int) X nC (Zc X)) (out : Int × S2) (k107 : Int → Int → Int → S2 → Option (Int × S2)) (hk107 : ∀ (x1 : Int) (x2 : Int) (x3 : Int) (S : S2) (H : Heap) (locs : List Loc) (ls : Array Slot), k107 x1 x2 x3 S = some out → WH X shC nC s S H locs → lv_has ls 7 [(1, .int (iz x1)), (2, .int (iz x2)), (3, .int (iz x3))] → W p l e rmX10_shift s m args below meth c H locs 0 0 (QI X shC nC s args below out) (F0 m 107 ls [])) : ∀ (N : Nat), ∀ (x1 : Int) (x2 : Int) (x3 : Int) (x4 : Int) (S : S2) (H : Heap) (locs : List Loc) (ls : Array Slot), f_X10_shift_38 k107 N x1 x2 x3 x4 S = some out → WH X shC nC s S H locs → lv_has ls 7 [(0, .ref (X.2.2 0)), (1, .int (iz x1)), (2, .int (iz x2)), (3, .int (iz x3)), (4, .int (iz x4))] → W p l e rmX10_shift s m args below meth c H locs 0 0 (QI X shC nC s args below out) (F0 m 38 ls []) := by
  intro N
  induction N with
  | zero => intro x1 x2 x3 x4 S H locs ls hf hw hl; cases hf
  | succ N ih =>
    intro x1 x2 x3 x4 S H locs ls hf hw hl
    rw [f_X10_shift_38.eq_2] at hf
    refine lv_iload C.1.1 C.1.2.1 dX10_shift_38 (lv_at hl 4 rfl) ?_
    refine r_bipush (v := 9) C dX10_shift_40 (by decide) ?_
    refine r_icmp_gt C (tgt := 107) dX10_shift_42 (by decide) hf (fun hf => ?_) (fun hf => ?_)
    · exact hk107 x1 x2 x3 S H locs ls hf hw (lv_sub hl [1, 2, 3] rfl)
    · refine lv_aload_n C.1.1 C.1.2.1 dX10_shift_45 rfl (lv_at hl 0 rfl) ?_
      refine r_getR (k := 4) C hw shC_0 ltC_0 cO10 rfl (by decide) tw2_50 rfl dX10_shift_46 ?_
      refine lv_aload_n C.1.1 C.1.2.1 dX10_shift_49 rfl (lv_at hl 0 rfl) ?_
      refine r_getR (k := 3) C hw shC_0 ltC_0 cO10 rfl (by decide) tw2_49 rfl dX10_shift_50 ?_
      refine lv_iload C.1.1 C.1.2.1 dX10_shift_53 (lv_at hl 4 rfl) ?_
      refine r_ineg C dX10_shift_55 ?_
      refine r_callI (As := [.ref (X.2.2 6), .int (iz (-x4))]) (rest := []) (rm := rmX3_match) C hw (is3_s is3_at20) (is3_l is3_at20) cO3 tw3_214 tw3_215 tw3_216 tw1_6 tw3_217 hd_X3_match rfl ⟨⟨rfl, rfl⟩, Nat.le_of_ble_eq_true rfl, Nat.le_of_ble_eq_true rfl⟩ hl.1 rfl (Nat.le_of_ble_eq_true rfl) dX10_shift_56 hf (fun o ho => c_X3_match l X hinj hZ N S 20 6 (-x4) is3_at20 is5_at6 o ho) (fun v56 S56 H locs hf hw => ?_)
      refine lv_istore (lv' := [(5, .int (iz v56)), (0, .ref (X.2.2 0)), (1, .int (iz x1)), (2, .int (iz x2)), (3, .int (iz x3)), (4, .int (iz x4))]) C.1.1 C.1.2.1 dX10_shift_59 hl (by decide) rfl (fun ls hl => ?_)
      refine lv_iload C.1.1 C.1.2.1 dX10_shift_61 (lv_at hl 0 rfl) ?_
      refine lv_iload_n C.1.1 C.1.2.1 dX10_shift_63 rfl (lv_at hl 4 rfl) ?_
      refine r_icmp_le C (tgt := 74) dX10_shift_64 (by decide) hf (fun hf => ?_) (fun hf => ?_)
      · exact (w_X10_shift_74 l hinj hZ C out (f_X10_shift_38 k107 N) ih N) x1 x2 x3 x4 S56 H locs ls hf hw (lv_sub hl [1, 2, 3, 4, 5] rfl)
      · refine lv_iload C.1.1 C.1.2.1 dX10_shift_67 (lv_at hl 0 rfl) ?_
        refine lv_istore_n (lv' := [(3, .int (iz v56)), (5, .int (iz v56)), (0, .ref (X.2.2 0)), (1, .int (iz x1)), (2, .int (iz x2)), (4, .int (iz x4))]) C.1.1 C.1.2.1 dX10_shift_69 rfl hl (by decide) rfl (fun ls hl => ?_)
        refine lv_iload C.1.1 C.1.2.1 dX10_shift_70 (lv_at hl 5 rfl) ?_
        refine r_ineg C dX10_shift_72 ?_
        refine lv_istore_n (lv' := [(2, .int (iz (-x4))), (3, .int (iz v56)), (5, .int (iz v56)), (0, .ref (X.2.2 0)), (1, .int (iz x1)), (4, .int (iz x4))]) C.1.1 C.1.2.1 dX10_shift_73 rfl hl (by decide) rfl (fun ls hl => ?_)
        exact (w_X10_shift_74 l hinj hZ C out (f_X10_shift_38 k107 N) ih N) x1 (-x4) v56 x4 S56 H locs ls hf hw (lv_sub hl [3, 4, 0, 1, 5] rfl)
set_option maxRecDepth 100000 in
set_option maxHeartbeats 4000000 in
theorem c_X10_shift (l : Launch) (X : XT) (hinj : XInj X nC) (hZ : ZOK (Zc X)) (N : Nat) (S : S2) (a1 : Int) (out : Int × S2) (hf : f_X10_shift N S a1 = some out) : MI l X shC nC (Zc X) yX10_shift cX10_shift 7 (some .int) rmX10_shift [.ref (X.2.2 0), .int (iz a1)] S out := by
  refine met_I (own := RX10) (by decide) rfl hinj hZ (Nat.le_of_ble_eq_true rfl) (fun p e s m args below meth c C ls H locs hw hl => ?_)
  unfold f_X10_shift at hf
  have hl : lv_has ls 7 [(0, .ref (X.2.2 0)), (1, .int (iz a1))] := hl
  refine lv_aload_n C.1.1 C.1.2.1 dX10_shift_0 rfl (lv_at hl 0 rfl) ?_
  refine r_callI (As := []) (rest := []) (rm := rmX10_noTrace) C hw shC_0 ltC_0 cO10 tw3_133 tw3_135 tp_22 tw1_1 tw3_136 hd_X10_noTrace rfl ⟨⟨rfl, rfl⟩, Nat.le_of_ble_eq_true rfl, Nat.le_of_ble_eq_true rfl⟩ hl.1 rfl (Nat.le_of_ble_eq_true rfl) dX10_shift_1 hf (fun o ho => c_X10_noTrace l X hinj hZ N S o ho) (fun v1 S1 H locs hf hw => ?_)
  refine r_if_ne C (tgt := 16) dX10_shift_4 (by decide) hf (fun hf => ?_) (fun hf => ?_)
  · refine r_ldcw (v := (-1000000)) C tw4_173 (by decide) dX10_shift_16 ?_
    exact r_retI C hw dX10_shift_19 hf
  · refine lv_iload_n C.1.1 C.1.2.1 dX10_shift_7 rfl (lv_at hl 1 rfl) ?_
    refine r_if_lt C (tgt := 16) dX10_shift_8 (by decide) hf (fun hf => ?_) (fun hf => ?_)
    · refine r_ldcw (v := (-1000000)) C tw4_173 (by decide) dX10_shift_16 ?_
      exact r_retI C hw dX10_shift_19 hf
    · refine lv_iload_n C.1.1 C.1.2.1 dX10_shift_11 rfl (lv_at hl 1 rfl) ?_
      refine r_iconst (v := 1) C dX10_shift_12 ?_
      refine r_icmp_le C (tgt := 20) dX10_shift_13 (by decide) hf (fun hf => ?_) (fun hf => ?_)
      · refine r_iconst (v := 0) C dX10_shift_20 ?_
        refine lv_istore_n (lv' := [(2, .int (iz 0)), (0, .ref (X.2.2 0)), (1, .int (iz a1))]) C.1.1 C.1.2.1 dX10_shift_21 rfl hl (by decide) rfl (fun ls hl => ?_)
        refine lv_aload_n C.1.1 C.1.2.1 dX10_shift_22 rfl (lv_at hl 1 rfl) ?_
        refine r_getR (k := 4) C hw shC_0 ltC_0 cO10 rfl (by decide) tw2_50 rfl dX10_shift_23 ?_
        refine lv_aload_n C.1.1 C.1.2.1 dX10_shift_26 rfl (lv_at hl 1 rfl) ?_
        refine r_getR (k := 3) C hw shC_0 ltC_0 cO10 rfl (by decide) tw2_49 rfl dX10_shift_27 ?_
        refine r_iconst (v := 0) C dX10_shift_30 ?_
        refine r_callI (As := [.ref (X.2.2 6), .int (iz 0)]) (rest := []) (rm := rmX3_match) C hw (is3_s is3_at20) (is3_l is3_at20) cO3 tw3_214 tw3_215 tw3_216 tw1_6 tw3_217 hd_X3_match rfl ⟨⟨rfl, rfl⟩, Nat.le_of_ble_eq_true rfl, Nat.le_of_ble_eq_true rfl⟩ hl.1 rfl (Nat.le_of_ble_eq_true rfl) dX10_shift_31 hf (fun o ho => c_X3_match l X hinj hZ N S1 20 6 0 is3_at20 is5_at6 o ho) (fun v31 S31 H locs hf hw => ?_)
        refine lv_istore_n (lv' := [(3, .int (iz v31)), (2, .int (iz 0)), (0, .ref (X.2.2 0)), (1, .int (iz a1))]) C.1.1 C.1.2.1 dX10_shift_34 rfl hl (by decide) rfl (fun ls hl => ?_)
        refine r_iconst (v := 1) C dX10_shift_35 ?_
        refine lv_istore (lv' := [(4, .int (iz 1)), (3, .int (iz v31)), (2, .int (iz 0)), (0, .ref (X.2.2 0)), (1, .int (iz a1))]) C.1.1 C.1.2.1 dX10_shift_36 hl (by decide) rfl (fun ls hl => ?_)
        exact (w_X10_shift_38 l hinj hZ C out (f_X10_shift_107 N) (w_X10_shift_107 l hinj hZ C out N) N) a1 0 v31 1 S31 H locs ls hf hw (lv_sub hl [3, 4, 2, 1, 0] rfl)
      · refine r_ldcw (v := (-1000000)) C tw4_173 (by decide) dX10_shift_16 ?_
        exact r_retI C hw dX10_shift_19 hf
def f_X10_matchedBits_47 (k17 : Int → Int → S2 → Option (Int × S2)) (N : Nat) (x1 : Int) (x2 : Int) (S : S2) : Option (Int × S2) := k17 x1 (x2 + 1) S
def f_X10_matchedBits_17 : Nat → Int → Int → S2 → Option (Int × S2)
  | 0, _, _, _ => none
  | N + 1, x1, x2, S => gI S 20 0 fun v22 => cI x2 v22 (if v22 ≤ x2 then rI x1 S else aI S (20 + 3) 8 x2 fun v36 => cI v36 (-1) (if v36 = (-1) then (f_X10_matchedBits_47 (f_X10_matchedBits_17 N) N) x1 x2 S else (f_X10_matchedBits_47 (f_X10_matchedBits_17 N) N) (bz (iz x1 ||| iz (bz (iz 1 <<< (iz x2 &&& 31))))) x2 S))
def f_X10_matchedBits (N : Nat) (S : S2) : Option (Int × S2) := bI (f_X3_match N S 20 6 0) fun v9 S9 => (f_X10_matchedBits_17 N) 0 0 S9
abbrev rmX10_matchedBits : Room := { frames := 3, cells := 0, slots := 0, locals := 70 }
theorem hd_X10_matchedBits : yX10_matchedBits.cls ≠ "java/lang/invoke/MethodHandle" ∧ yX10_matchedBits.cls ≠ "java/lang/invoke/VarHandle" ∧ (parseMethodDescriptor yX10_matchedBits.desc).map (fun d => d.parameters.length) = some 0 := by decide +kernel
set_option maxRecDepth 100000 in
set_option maxHeartbeats 4000000 in
theorem w_X10_matchedBits_47 {p : Program} (l : Launch) {e : Env} {s : State} {m : MethodId} {args : Array Value} {below : List Frame} {meth : Method} {c : Code} {X : XT} (hinj : XInj X nC) (hZ : ZOK (Zc X)) (C : CX p s m args meth c cX10_matchedBits 3 RX10 (some .int) X nC (Zc X)) (out : Int × S2) (k17 : Int → Int → S2 → Option (Int × S2)) (hk17 : ∀ (x1 : Int) (x2 : Int) (S : S2) (H : Heap) (locs : List Loc) (ls : Array Slot), k17 x1 x2 S = some out → WH X shC nC s S H locs → lv_has ls 3 [(0, .ref (X.2.2 0)), (1, .int (iz x1)), (2, .int (iz x2))] → W p l e rmX10_matchedBits s m args below meth c H locs 0 0 (QI X shC nC s args below out) (F0 m 17 ls [])) : ∀ (N : Nat), ∀ (x1 : Int) (x2 : Int) (S : S2) (H : Heap) (locs : List Loc) (ls : Array Slot), f_X10_matchedBits_47 k17 N x1 x2 S = some out → WH X shC nC s S H locs → lv_has ls 3 [(0, .ref (X.2.2 0)), (1, .int (iz x1)), (2, .int (iz x2))] → W p l e rmX10_matchedBits s m args below meth c H locs 0 0 (QI X shC nC s args below out) (F0 m 47 ls []) := by
  intro N x1 x2 S H locs ls hf hw hl
  unfold f_X10_matchedBits_47 at hf
  refine lv_iinc (v := iz (x2 + 1)) (lv' := [(2, .int (iz (x2 + 1))), (0, .ref (X.2.2 0)), (1, .int (iz x1))]) C.1.1 C.1.2.1 dX10_matchedBits_47 hl (k := 2) rfl (iz_add _ _) (by decide) rfl (fun ls hl => ?_)
  refine lv_goto (tgt := 17) C.1.1 C.1.2.1 dX10_matchedBits_50 (by decide) ?_
  exact hk17 x1 (x2 + 1) S H locs ls hf hw (lv_sub hl [1, 2, 0] rfl)
set_option maxRecDepth 100000 in
set_option maxHeartbeats 4000000 in
theorem w_X10_matchedBits_17 {p : Program} (l : Launch) {e : Env} {s : State} {m : MethodId} {args : Array Value} {below : List Frame} {meth : Method} {c : Code} {X : XT} (hinj : XInj X nC) (hZ : ZOK (Zc X)) (C : CX p s m args meth c cX10_matchedBits 3 RX10 (some .int) X nC (Zc X)) (out : Int × S2) : ∀ (N : Nat), ∀ (x1 : Int) (x2 : Int) (S : S2) (H : Heap) (locs : List Loc) (ls : Array Slot), f_X10_matchedBits_17 N x1 x2 S = some out → WH X shC nC s S H locs → lv_has ls 3 [(0, .ref (X.2.2 0)), (1, .int (iz x1)), (2, .int (iz x2))] → W p l e rmX10_matchedBits s m args below meth c H locs 0 0 (QI X shC nC s args below out) (F0 m 17 ls []) := by
  intro N
  induction N with
  | zero => intro x1 x2 S H locs ls hf hw hl; cases hf
  | succ N ih =>
    intro x1 x2 S H locs ls hf hw hl
    rw [f_X10_matchedBits_17.eq_2] at hf
    refine lv_iload_n C.1.1 C.1.2.1 dX10_matchedBits_17 rfl (lv_at hl 2 rfl) ?_
    refine lv_aload_n C.1.1 C.1.2.1 dX10_matchedBits_18 rfl (lv_at hl 0 rfl) ?_
    refine r_getR (k := 4) C hw shC_0 ltC_0 cO10 rfl (by decide) tw2_50 rfl dX10_matchedBits_19 ?_
    refine r_getI (k := 0) C hw (is3_s is3_at20) (is3_l is3_at20) cO3 rfl (by decide) tw1_168 rfl dX10_matchedBits_22 hf (fun v22 hf => ?_)
    refine r_icmp_ge C (tgt := 53) dX10_matchedBits_25 (by decide) hf (fun hf => ?_) (fun hf => ?_)
    · refine lv_iload_n C.1.1 C.1.2.1 dX10_matchedBits_53 rfl (lv_at hl 1 rfl) ?_
      exact r_retI C hw dX10_matchedBits_54 hf
    · refine lv_aload_n C.1.1 C.1.2.1 dX10_matchedBits_28 rfl (lv_at hl 0 rfl) ?_
      refine r_getR (k := 4) C hw shC_0 ltC_0 cO10 rfl (by decide) tw2_50 rfl dX10_matchedBits_29 ?_
      refine r_getR (k := 4) C hw (is3_s is3_at20) (is3_l is3_at20) cO3 rfl (by decide) tw1_178 rfl dX10_matchedBits_32 ?_
      refine lv_iload_n C.1.1 C.1.2.1 dX10_matchedBits_35 rfl (lv_at hl 2 rfl) ?_
      refine r_iald C hw (is3_s3 is3_at20) (is3_l3 is3_at20) (Nat.le_of_ble_eq_true rfl) dX10_matchedBits_36 hf (fun v36 hf => ?_)
      refine r_iconst (v := (-1)) C dX10_matchedBits_37 ?_
      refine r_icmp_eq C (tgt := 47) dX10_matchedBits_38 (by decide) hf (fun hf => ?_) (fun hf => ?_)
      · exact (w_X10_matchedBits_47 l hinj hZ C out (f_X10_matchedBits_17 N) ih N) x1 x2 S H locs ls hf hw (lv_sub hl [0, 1, 2] rfl)
      · refine lv_iload_n C.1.1 C.1.2.1 dX10_matchedBits_41 rfl (lv_at hl 1 rfl) ?_
        refine r_iconst (v := 1) C dX10_matchedBits_42 ?_
        refine lv_iload_n C.1.1 C.1.2.1 dX10_matchedBits_43 rfl (lv_at hl 2 rfl) ?_
        refine r_ishl C dX10_matchedBits_44 ?_
        refine r_ior C dX10_matchedBits_45 ?_
        refine lv_istore_n (lv' := [(1, .int (iz (bz (iz x1 ||| iz (bz (iz 1 <<< (iz x2 &&& 31))))))), (0, .ref (X.2.2 0)), (2, .int (iz x2))]) C.1.1 C.1.2.1 dX10_matchedBits_46 rfl hl (by decide) rfl (fun ls hl => ?_)
        exact (w_X10_matchedBits_47 l hinj hZ C out (f_X10_matchedBits_17 N) ih N) (bz (iz x1 ||| iz (bz (iz 1 <<< (iz x2 &&& 31))))) x2 S H locs ls hf hw (lv_sub hl [1, 0, 2] rfl)
set_option maxRecDepth 100000 in
set_option maxHeartbeats 4000000 in
theorem c_X10_matchedBits (l : Launch) (X : XT) (hinj : XInj X nC) (hZ : ZOK (Zc X)) (N : Nat) (S : S2) (out : Int × S2) (hf : f_X10_matchedBits N S = some out) : MI l X shC nC (Zc X) yX10_matchedBits cX10_matchedBits 3 (some .int) rmX10_matchedBits [.ref (X.2.2 0)] S out := by
  refine met_I (own := RX10) (by decide) rfl hinj hZ (Nat.le_of_ble_eq_true rfl) (fun p e s m args below meth c C ls H locs hw hl => ?_)
  unfold f_X10_matchedBits at hf
  have hl : lv_has ls 3 [(0, .ref (X.2.2 0))] := hl
  refine lv_aload_n C.1.1 C.1.2.1 dX10_matchedBits_0 rfl (lv_at hl 0 rfl) ?_
  refine r_getR (k := 4) C hw shC_0 ltC_0 cO10 rfl (by decide) tw2_50 rfl dX10_matchedBits_1 ?_
  refine lv_aload_n C.1.1 C.1.2.1 dX10_matchedBits_4 rfl (lv_at hl 0 rfl) ?_
  refine r_getR (k := 3) C hw shC_0 ltC_0 cO10 rfl (by decide) tw2_49 rfl dX10_matchedBits_5 ?_
  refine r_iconst (v := 0) C dX10_matchedBits_8 ?_
  refine r_callI (As := [.ref (X.2.2 6), .int (iz 0)]) (rest := []) (rm := rmX3_match) C hw (is3_s is3_at20) (is3_l is3_at20) cO3 tw3_214 tw3_215 tw3_216 tw1_6 tw3_217 hd_X3_match rfl ⟨⟨rfl, rfl⟩, Nat.le_of_ble_eq_true rfl, Nat.le_of_ble_eq_true rfl⟩ hl.1 rfl (Nat.le_of_ble_eq_true rfl) dX10_matchedBits_9 hf (fun o ho => c_X3_match l X hinj hZ N S 20 6 0 is3_at20 is5_at6 o ho) (fun v9 S9 H locs hf hw => ?_)
  refine lv_pop C.1.1 C.1.2.1 dX10_matchedBits_12 rfl ?_
  refine r_iconst (v := 0) C dX10_matchedBits_13 ?_
  refine lv_istore_n (lv' := [(1, .int (iz 0)), (0, .ref (X.2.2 0))]) C.1.1 C.1.2.1 dX10_matchedBits_14 rfl hl (by decide) rfl (fun ls hl => ?_)
  refine r_iconst (v := 0) C dX10_matchedBits_15 ?_
  refine lv_istore_n (lv' := [(2, .int (iz 0)), (1, .int (iz 0)), (0, .ref (X.2.2 0))]) C.1.1 C.1.2.1 dX10_matchedBits_16 rfl hl (by decide) rfl (fun ls hl => ?_)
  exact (w_X10_matchedBits_17 l hinj hZ C out N) 0 0 S9 H locs ls hf hw (lv_sub hl [2, 1, 0] rfl)
def f_X10_spell (N : Nat) (S : S2) (a1 : Int) (a2 : Int) : Option (Int × S2) := bI (f_X10_isKept N S a1) fun v2 S2 => cI v2 0 (if v2 = 0 then rI (-1) S2 else cI a2 (-1) (if (-1) ≤ a2 then bI (f_X3_match N S2 20 6 0) fun v24 S24 => uI S24 80 1 0 fun S33 => bI (f_X3_takenBy N S33 20 a1) fun v49 S49 => bV (f_X8_addName N S49 80 20 v49) fun S52 => bV (f_X8_add N S52 80 64) fun S61 => bI (f_X5_placeOf N S61 6 a1) fun v73 S73 => bV (f_X8_addNumber N S73 80 v73) fun S76 => bV (f_X8_add N S76 80 58) fun S85 => bI (f_X5_heightOf N S85 6 a1) fun v97 S97 => bV (f_X8_addNumber N S97 80 v97) fun S100 => cI a2 (-1) (if a2 = (-1) then gI S100 80 1 fun v112 => rI v112 S100 else gI S100 80 1 fun v121 => cI a2 v121 (if v121 ≤ a2 then rI (-1) S100 else aI S100 (80 + 1) 13 a2 fun v135 => rI v135 S100)) else rI (-1) S2))
abbrev rmX10_spell : Room := { frames := 3, cells := 0, slots := 0, locals := 70 }
theorem hd_X10_spell : yX10_spell.cls ≠ "java/lang/invoke/MethodHandle" ∧ yX10_spell.cls ≠ "java/lang/invoke/VarHandle" ∧ (parseMethodDescriptor yX10_spell.desc).map (fun d => d.parameters.length) = some 2 := by decide +kernel
set_option maxRecDepth 100000 in
set_option maxHeartbeats 4000000 in
theorem c_X10_spell (l : Launch) (X : XT) (hinj : XInj X nC) (hZ : ZOK (Zc X)) (N : Nat) (S : S2) (a1 : Int) (a2 : Int) (out : Int × S2) (hf : f_X10_spell N S a1 a2 = some out) : MI l X shC nC (Zc X) yX10_spell cX10_spell 3 (some .int) rmX10_spell [.ref (X.2.2 0), .int (iz a1), .int (iz a2)] S out := by
  refine met_I (own := RX10) (by decide) rfl hinj hZ (Nat.le_of_ble_eq_true rfl) (fun p e s m args below meth c C ls H locs hw hl => ?_)
  unfold f_X10_spell at hf
  have hl : lv_has ls 3 [(0, .ref (X.2.2 0)), (1, .int (iz a1)), (2, .int (iz a2))] := hl
  refine lv_aload_n C.1.1 C.1.2.1 dX10_spell_0 rfl (lv_at hl 0 rfl) ?_
  refine lv_iload_n C.1.1 C.1.2.1 dX10_spell_1 rfl (lv_at hl 1 rfl) ?_
  refine r_callI (As := [.int (iz a1)]) (rest := []) (rm := rmX10_isKept) C hw shC_0 ltC_0 cO10 tw3_158 tw3_160 tp_23 tw1_1 tw3_161 hd_X10_isKept rfl ⟨⟨rfl, rfl⟩, Nat.le_of_ble_eq_true rfl, Nat.le_of_ble_eq_true rfl⟩ hl.1 rfl (Nat.le_of_ble_eq_true rfl) dX10_spell_2 hf (fun o ho => c_X10_isKept l X hinj hZ N S a1 o ho) (fun v2 S2 H locs hf hw => ?_)
  refine r_if_eq C (tgt := 13) dX10_spell_5 (by decide) hf (fun hf => ?_) (fun hf => ?_)
  · refine r_iconst (v := (-1)) C dX10_spell_13 ?_
    exact r_retI C hw dX10_spell_14 hf
  · refine lv_iload_n C.1.1 C.1.2.1 dX10_spell_8 rfl (lv_at hl 2 rfl) ?_
    refine r_iconst (v := (-1)) C dX10_spell_9 ?_
    refine r_icmp_ge C (tgt := 15) dX10_spell_10 (by decide) hf (fun hf => ?_) (fun hf => ?_)
    · refine lv_aload_n C.1.1 C.1.2.1 dX10_spell_15 rfl (lv_at hl 0 rfl) ?_
      refine r_getR (k := 4) C hw shC_0 ltC_0 cO10 rfl (by decide) tw2_50 rfl dX10_spell_16 ?_
      refine lv_aload_n C.1.1 C.1.2.1 dX10_spell_19 rfl (lv_at hl 0 rfl) ?_
      refine r_getR (k := 3) C hw shC_0 ltC_0 cO10 rfl (by decide) tw2_49 rfl dX10_spell_20 ?_
      refine r_iconst (v := 0) C dX10_spell_23 ?_
      refine r_callI (As := [.ref (X.2.2 6), .int (iz 0)]) (rest := []) (rm := rmX3_match) C hw (is3_s is3_at20) (is3_l is3_at20) cO3 tw3_214 tw3_215 tw3_216 tw1_6 tw3_217 hd_X3_match rfl ⟨⟨rfl, rfl⟩, Nat.le_of_ble_eq_true rfl, Nat.le_of_ble_eq_true rfl⟩ hl.1 rfl (Nat.le_of_ble_eq_true rfl) dX10_spell_24 hf (fun o ho => c_X3_match l X hinj hZ N S2 20 6 0 is3_at20 is5_at6 o ho) (fun v24 S24 H locs hf hw => ?_)
      refine lv_pop C.1.1 C.1.2.1 dX10_spell_27 rfl ?_
      refine lv_aload_n C.1.1 C.1.2.1 dX10_spell_28 rfl (lv_at hl 0 rfl) ?_
      refine r_getR (k := 18) C hw shC_0 ltC_0 cO10 rfl (by decide) tw2_64 rfl dX10_spell_29 ?_
      refine r_iconst (v := 0) C dX10_spell_32 ?_
      refine r_putI (k := 1) C hw (is8_s is8_at80) (is8_l is8_at80) cO8 rfl (by decide) tw2_40 rfl rfl rfl dX10_spell_33 hf (fun S33 H locs hf hw => ?_)
      refine lv_aload_n C.1.1 C.1.2.1 dX10_spell_36 rfl (lv_at hl 0 rfl) ?_
      refine r_getR (k := 18) C hw shC_0 ltC_0 cO10 rfl (by decide) tw2_64 rfl dX10_spell_37 ?_
      refine lv_aload_n C.1.1 C.1.2.1 dX10_spell_40 rfl (lv_at hl 0 rfl) ?_
      refine r_getR (k := 4) C hw shC_0 ltC_0 cO10 rfl (by decide) tw2_50 rfl dX10_spell_41 ?_
      refine lv_aload_n C.1.1 C.1.2.1 dX10_spell_44 rfl (lv_at hl 0 rfl) ?_
      refine r_getR (k := 4) C hw shC_0 ltC_0 cO10 rfl (by decide) tw2_50 rfl dX10_spell_45 ?_
      refine lv_iload_n C.1.1 C.1.2.1 dX10_spell_48 rfl (lv_at hl 1 rfl) ?_
      refine r_callI (As := [.int (iz a1)]) (rest := [.ref (X.2.2 20), .ref (X.2.2 80)]) (rm := rmX3_takenBy) C hw (is3_s is3_at20) (is3_l is3_at20) cO3 tw4_208 tw4_209 tw4_210 tw1_6 tw4_211 hd_X3_takenBy rfl ⟨⟨rfl, rfl⟩, Nat.le_of_ble_eq_true rfl, Nat.le_of_ble_eq_true rfl⟩ hl.1 rfl (Nat.le_of_ble_eq_true rfl) dX10_spell_49 hf (fun o ho => c_X3_takenBy l X hinj hZ N S33 20 a1 is3_at20 o ho) (fun v49 S49 H locs hf hw => ?_)
      refine r_callV (As := [.ref (X.2.2 20), .int (iz v49)]) (rest := []) (rm := rmX8_addName) C hw (is8_s is8_at80) (is8_l is8_at80) cO8 tw4_212 tw4_213 tw4_214 tw1_11 tw4_215 hd_X8_addName rfl ⟨⟨rfl, rfl⟩, Nat.le_of_ble_eq_true rfl, Nat.le_of_ble_eq_true rfl⟩ hl.1 rfl (Nat.le_of_ble_eq_true rfl) dX10_spell_52 hf (fun o ho => c_X8_addName l X hinj hZ N S49 80 20 v49 is8_at80 is3_at20 o ho) (fun S52 H locs hf hw => ?_)
      refine lv_aload_n C.1.1 C.1.2.1 dX10_spell_55 rfl (lv_at hl 0 rfl) ?_
      refine r_getR (k := 18) C hw shC_0 ltC_0 cO10 rfl (by decide) tw2_64 rfl dX10_spell_56 ?_
      refine r_bipush (v := 64) C dX10_spell_59 (by decide) ?_
      refine r_callV (As := [.int (iz 64)]) (rest := []) (rm := rmX8_add) C hw (is8_s is8_at80) (is8_l is8_at80) cO8 tw4_221 tw4_217 tw4_218 tw1_11 tw4_219 hd_X8_add rfl ⟨⟨rfl, rfl⟩, Nat.le_of_ble_eq_true rfl, Nat.le_of_ble_eq_true rfl⟩ hl.1 rfl (Nat.le_of_ble_eq_true rfl) dX10_spell_61 hf (fun o ho => c_X8_add l X hinj hZ N S52 80 64 is8_at80 o ho) (fun S61 H locs hf hw => ?_)
      refine lv_aload_n C.1.1 C.1.2.1 dX10_spell_64 rfl (lv_at hl 0 rfl) ?_
      refine r_getR (k := 18) C hw shC_0 ltC_0 cO10 rfl (by decide) tw2_64 rfl dX10_spell_65 ?_
      refine lv_aload_n C.1.1 C.1.2.1 dX10_spell_68 rfl (lv_at hl 0 rfl) ?_
      refine r_getR (k := 3) C hw shC_0 ltC_0 cO10 rfl (by decide) tw2_49 rfl dX10_spell_69 ?_
      refine lv_iload_n C.1.1 C.1.2.1 dX10_spell_72 rfl (lv_at hl 1 rfl) ?_
      refine r_callI (As := [.int (iz a1)]) (rest := [.ref (X.2.2 80)]) (rm := rmX5_placeOf) C hw (is5_s is5_at6) (is5_l is5_at6) cO5 tw4_186 tw3_167 tw3_168 tw1_5 tw3_169 hd_X5_placeOf rfl ⟨⟨rfl, rfl⟩, Nat.le_of_ble_eq_true rfl, Nat.le_of_ble_eq_true rfl⟩ hl.1 rfl (Nat.le_of_ble_eq_true rfl) dX10_spell_73 hf (fun o ho => c_X5_placeOf l X hinj hZ N S61 6 a1 is5_at6 o ho) (fun v73 S73 H locs hf hw => ?_)
      refine r_callV (As := [.int (iz v73)]) (rest := []) (rm := rmX8_addNumber) C hw (is8_s is8_at80) (is8_l is8_at80) cO8 tw4_222 tw4_223 tw4_224 tw1_11 tw4_225 hd_X8_addNumber rfl ⟨⟨rfl, rfl⟩, Nat.le_of_ble_eq_true rfl, Nat.le_of_ble_eq_true rfl⟩ hl.1 rfl (Nat.le_of_ble_eq_true rfl) dX10_spell_76 hf (fun o ho => c_X8_addNumber l X hinj hZ N S73 80 v73 is8_at80 o ho) (fun S76 H locs hf hw => ?_)
      refine lv_aload_n C.1.1 C.1.2.1 dX10_spell_79 rfl (lv_at hl 0 rfl) ?_
      refine r_getR (k := 18) C hw shC_0 ltC_0 cO10 rfl (by decide) tw2_64 rfl dX10_spell_80 ?_
      refine r_bipush (v := 58) C dX10_spell_83 (by decide) ?_
      refine r_callV (As := [.int (iz 58)]) (rest := []) (rm := rmX8_add) C hw (is8_s is8_at80) (is8_l is8_at80) cO8 tw4_221 tw4_217 tw4_218 tw1_11 tw4_219 hd_X8_add rfl ⟨⟨rfl, rfl⟩, Nat.le_of_ble_eq_true rfl, Nat.le_of_ble_eq_true rfl⟩ hl.1 rfl (Nat.le_of_ble_eq_true rfl) dX10_spell_85 hf (fun o ho => c_X8_add l X hinj hZ N S76 80 58 is8_at80 o ho) (fun S85 H locs hf hw => ?_)
      refine lv_aload_n C.1.1 C.1.2.1 dX10_spell_88 rfl (lv_at hl 0 rfl) ?_
      refine r_getR (k := 18) C hw shC_0 ltC_0 cO10 rfl (by decide) tw2_64 rfl dX10_spell_89 ?_
      refine lv_aload_n C.1.1 C.1.2.1 dX10_spell_92 rfl (lv_at hl 0 rfl) ?_
      refine r_getR (k := 3) C hw shC_0 ltC_0 cO10 rfl (by decide) tw2_49 rfl dX10_spell_93 ?_
      refine lv_iload_n C.1.1 C.1.2.1 dX10_spell_96 rfl (lv_at hl 1 rfl) ?_
      refine r_callI (As := [.int (iz a1)]) (rest := [.ref (X.2.2 80)]) (rm := rmX5_heightOf) C hw (is5_s is5_at6) (is5_l is5_at6) cO5 tw4_191 tw3_105 tw3_106 tw1_5 tw3_107 hd_X5_heightOf rfl ⟨⟨rfl, rfl⟩, Nat.le_of_ble_eq_true rfl, Nat.le_of_ble_eq_true rfl⟩ hl.1 rfl (Nat.le_of_ble_eq_true rfl) dX10_spell_97 hf (fun o ho => c_X5_heightOf l X hinj hZ N S85 6 a1 is5_at6 o ho) (fun v97 S97 H locs hf hw => ?_)
      refine r_callV (As := [.int (iz v97)]) (rest := []) (rm := rmX8_addNumber) C hw (is8_s is8_at80) (is8_l is8_at80) cO8 tw4_222 tw4_223 tw4_224 tw1_11 tw4_225 hd_X8_addNumber rfl ⟨⟨rfl, rfl⟩, Nat.le_of_ble_eq_true rfl, Nat.le_of_ble_eq_true rfl⟩ hl.1 rfl (Nat.le_of_ble_eq_true rfl) dX10_spell_100 hf (fun o ho => c_X8_addNumber l X hinj hZ N S97 80 v97 is8_at80 o ho) (fun S100 H locs hf hw => ?_)
      refine lv_iload_n C.1.1 C.1.2.1 dX10_spell_103 rfl (lv_at hl 2 rfl) ?_
      refine r_iconst (v := (-1)) C dX10_spell_104 ?_
      refine r_icmp_ne C (tgt := 116) dX10_spell_105 (by decide) hf (fun hf => ?_) (fun hf => ?_)
      · refine lv_iload_n C.1.1 C.1.2.1 dX10_spell_116 rfl (lv_at hl 2 rfl) ?_
        refine lv_aload_n C.1.1 C.1.2.1 dX10_spell_117 rfl (lv_at hl 0 rfl) ?_
        refine r_getR (k := 18) C hw shC_0 ltC_0 cO10 rfl (by decide) tw2_64 rfl dX10_spell_118 ?_
        refine r_getI (k := 1) C hw (is8_s is8_at80) (is8_l is8_at80) cO8 rfl (by decide) tw2_40 rfl dX10_spell_121 hf (fun v121 hf => ?_)
        refine r_icmp_ge C (tgt := 139) dX10_spell_124 (by decide) hf (fun hf => ?_) (fun hf => ?_)
        · refine r_iconst (v := (-1)) C dX10_spell_139 ?_
          exact r_retI C hw dX10_spell_140 hf
        · refine lv_aload_n C.1.1 C.1.2.1 dX10_spell_127 rfl (lv_at hl 0 rfl) ?_
          refine r_getR (k := 18) C hw shC_0 ltC_0 cO10 rfl (by decide) tw2_64 rfl dX10_spell_128 ?_
          refine r_getR (k := 0) C hw (is8_s is8_at80) (is8_l is8_at80) cO8 rfl (by decide) tw2_38 rfl dX10_spell_131 ?_
          refine lv_iload_n C.1.1 C.1.2.1 dX10_spell_134 rfl (lv_at hl 2 rfl) ?_
          refine r_iald C hw (is8_s1 is8_at80) (is8_l1 is8_at80) (Nat.le_of_ble_eq_true rfl) dX10_spell_135 hf (fun v135 hf => ?_)
          refine lv_goto (tgt := 140) C.1.1 C.1.2.1 dX10_spell_136 (by decide) ?_
          exact r_retI C hw dX10_spell_140 hf
      · refine lv_aload_n C.1.1 C.1.2.1 dX10_spell_108 rfl (lv_at hl 0 rfl) ?_
        refine r_getR (k := 18) C hw shC_0 ltC_0 cO10 rfl (by decide) tw2_64 rfl dX10_spell_109 ?_
        refine r_getI (k := 1) C hw (is8_s is8_at80) (is8_l is8_at80) cO8 rfl (by decide) tw2_40 rfl dX10_spell_112 hf (fun v112 hf => ?_)
        exact r_retI C hw dX10_spell_115 hf
    · refine r_iconst (v := (-1)) C dX10_spell_13 ?_
      exact r_retI C hw dX10_spell_14 hf
def f_X10_most (N : Nat) (S : S2) (a1 : Int) : Option (Int × S2) := bI (f_X10_noTrace N S) fun v1 S1 => cI v1 0 (if v1 = 0 then cI a1 0 (if a1 = 0 then bI (f_X10_sumOfPlaces N S1) fun v61 S61 => rI v61 S61 else (if a1 = 1 then gI S1 6 0 fun v73 => bI (f_X5_sumOfPersistences N S1 6 v73) fun v76 S76 => rI v76 S76 else (if a1 = 2 then gI S1 6 1 fun v88 => bI (f_X5_sumOfPersistences N S1 6 v88) fun v91 S91 => rI v91 S91 else (if a1 = 3 then bI (f_X10_sumOfAreas N S1) fun v96 S96 => rI v96 S96 else (if a1 = 4 then bI (f_X10_greatestGeneration N S1) fun v101 S101 => rI v101 S101 else (if a1 = 5 then bI (f_X10_matchedBits N S1) fun v106 S106 => rI v106 S106 else (if a1 = 6 then bI (f_X10_widestKept N S1) fun v111 S111 => rI v111 S111 else (if a1 = 7 then bI (f_X0_greatestSample N S1 4) fun v119 S119 => rI v119 S119 else rI (-1000000) S1)))))))) else rI (-1000000) S1)
abbrev rmX10_most : Room := { frames := 5, cells := 0, slots := 0, locals := 120 }
theorem hd_X10_most : yX10_most.cls ≠ "java/lang/invoke/MethodHandle" ∧ yX10_most.cls ≠ "java/lang/invoke/VarHandle" ∧ (parseMethodDescriptor yX10_most.desc).map (fun d => d.parameters.length) = some 1 := by decide +kernel
set_option maxRecDepth 100000 in
set_option maxHeartbeats 4000000 in
theorem c_X10_most (l : Launch) (X : XT) (hinj : XInj X nC) (hZ : ZOK (Zc X)) (N : Nat) (S : S2) (a1 : Int) (out : Int × S2) (hf : f_X10_most N S a1 = some out) : MI l X shC nC (Zc X) yX10_most cX10_most 2 (some .int) rmX10_most [.ref (X.2.2 0), .int (iz a1)] S out := by
  refine met_I (own := RX10) (by decide) rfl hinj hZ (Nat.le_of_ble_eq_true rfl) (fun p e s m args below meth c C ls H locs hw hl => ?_)
  unfold f_X10_most at hf
  have hl : lv_has ls 2 [(0, .ref (X.2.2 0)), (1, .int (iz a1))] := hl
  refine lv_aload_n C.1.1 C.1.2.1 dX10_most_0 rfl (lv_at hl 0 rfl) ?_
  refine r_callI (As := []) (rest := []) (rm := rmX10_noTrace) C hw shC_0 ltC_0 cO10 tw3_133 tw3_135 tp_22 tw1_1 tw3_136 hd_X10_noTrace rfl ⟨⟨rfl, rfl⟩, Nat.le_of_ble_eq_true rfl, Nat.le_of_ble_eq_true rfl⟩ hl.1 rfl (Nat.le_of_ble_eq_true rfl) dX10_most_1 hf (fun o ho => c_X10_noTrace l X hinj hZ N S o ho) (fun v1 S1 H locs hf hw => ?_)
  refine r_if_eq C (tgt := 11) dX10_most_4 (by decide) hf (fun hf => ?_) (fun hf => ?_)
  · refine lv_iload_n C.1.1 C.1.2.1 dX10_most_11 rfl (lv_at hl 1 rfl) ?_
    obtain ⟨⟨hsw, -⟩, hf⟩ := cI_some hf
    rcases ite_some hf with ⟨hc12_0, hf⟩ | ⟨hc12_0, hf⟩
    · refine lv_tableIn (tgt := 60) C.1.1 C.1.2.1 dX10_most_12 (by rw [hc12_0]; decide) (by rw [hc12_0]; decide) (by rw [hc12_0]; rfl) (by decide) ?_
      refine lv_aload_n C.1.1 C.1.2.1 dX10_most_60 rfl (lv_at hl 0 rfl) ?_
      refine r_callI (As := []) (rest := []) (rm := rmX10_sumOfPlaces) C hw shC_0 ltC_0 cO10 tw5_17 tw5_19 tp_40 tw1_1 tw5_20 hd_X10_sumOfPlaces rfl ⟨⟨rfl, rfl⟩, Nat.le_of_ble_eq_true rfl, Nat.le_of_ble_eq_true rfl⟩ hl.1 rfl (Nat.le_of_ble_eq_true rfl) dX10_most_61 hf (fun o ho => c_X10_sumOfPlaces l X hinj hZ N S1 o ho) (fun v61 S61 H locs hf hw => ?_)
      exact r_retI C hw dX10_most_64 hf
    · skip
      rcases ite_some hf with ⟨hc12_1, hf⟩ | ⟨hc12_1, hf⟩
      · refine lv_tableIn (tgt := 65) C.1.1 C.1.2.1 dX10_most_12 (by rw [hc12_1]; decide) (by rw [hc12_1]; decide) (by rw [hc12_1]; rfl) (by decide) ?_
        refine lv_aload_n C.1.1 C.1.2.1 dX10_most_65 rfl (lv_at hl 0 rfl) ?_
        refine r_getR (k := 3) C hw shC_0 ltC_0 cO10 rfl (by decide) tw2_49 rfl dX10_most_66 ?_
        refine lv_aload_n C.1.1 C.1.2.1 dX10_most_69 rfl (lv_at hl 0 rfl) ?_
        refine r_getR (k := 3) C hw shC_0 ltC_0 cO10 rfl (by decide) tw2_49 rfl dX10_most_70 ?_
        refine r_getI (k := 0) C hw (is5_s is5_at6) (is5_l is5_at6) cO5 rfl (by decide) tw1_112 rfl dX10_most_73 hf (fun v73 hf => ?_)
        refine r_callI (As := [.int (iz v73)]) (rest := []) (rm := rmX5_sumOfPersistences) C hw (is5_s is5_at6) (is5_l is5_at6) cO5 tw5_21 tw5_22 tw5_23 tw1_5 tw5_24 hd_X5_sumOfPersistences rfl ⟨⟨rfl, rfl⟩, Nat.le_of_ble_eq_true rfl, Nat.le_of_ble_eq_true rfl⟩ hl.1 rfl (Nat.le_of_ble_eq_true rfl) dX10_most_76 hf (fun o ho => c_X5_sumOfPersistences l X hinj hZ N S1 6 v73 is5_at6 o ho) (fun v76 S76 H locs hf hw => ?_)
        exact r_retI C hw dX10_most_79 hf
      · skip
        rcases ite_some hf with ⟨hc12_2, hf⟩ | ⟨hc12_2, hf⟩
        · refine lv_tableIn (tgt := 80) C.1.1 C.1.2.1 dX10_most_12 (by rw [hc12_2]; decide) (by rw [hc12_2]; decide) (by rw [hc12_2]; rfl) (by decide) ?_
          refine lv_aload_n C.1.1 C.1.2.1 dX10_most_80 rfl (lv_at hl 0 rfl) ?_
          refine r_getR (k := 3) C hw shC_0 ltC_0 cO10 rfl (by decide) tw2_49 rfl dX10_most_81 ?_
          refine lv_aload_n C.1.1 C.1.2.1 dX10_most_84 rfl (lv_at hl 0 rfl) ?_
          refine r_getR (k := 3) C hw shC_0 ltC_0 cO10 rfl (by decide) tw2_49 rfl dX10_most_85 ?_
          refine r_getI (k := 1) C hw (is5_s is5_at6) (is5_l is5_at6) cO5 rfl (by decide) tw1_115 rfl dX10_most_88 hf (fun v88 hf => ?_)
          refine r_callI (As := [.int (iz v88)]) (rest := []) (rm := rmX5_sumOfPersistences) C hw (is5_s is5_at6) (is5_l is5_at6) cO5 tw5_21 tw5_22 tw5_23 tw1_5 tw5_24 hd_X5_sumOfPersistences rfl ⟨⟨rfl, rfl⟩, Nat.le_of_ble_eq_true rfl, Nat.le_of_ble_eq_true rfl⟩ hl.1 rfl (Nat.le_of_ble_eq_true rfl) dX10_most_91 hf (fun o ho => c_X5_sumOfPersistences l X hinj hZ N S1 6 v88 is5_at6 o ho) (fun v91 S91 H locs hf hw => ?_)
          exact r_retI C hw dX10_most_94 hf
        · skip
          rcases ite_some hf with ⟨hc12_3, hf⟩ | ⟨hc12_3, hf⟩
          · refine lv_tableIn (tgt := 95) C.1.1 C.1.2.1 dX10_most_12 (by rw [hc12_3]; decide) (by rw [hc12_3]; decide) (by rw [hc12_3]; rfl) (by decide) ?_
            refine lv_aload_n C.1.1 C.1.2.1 dX10_most_95 rfl (lv_at hl 0 rfl) ?_
            refine r_callI (As := []) (rest := []) (rm := rmX10_sumOfAreas) C hw shC_0 ltC_0 cO10 tw5_25 tw5_27 tp_41 tw1_1 tw5_28 hd_X10_sumOfAreas rfl ⟨⟨rfl, rfl⟩, Nat.le_of_ble_eq_true rfl, Nat.le_of_ble_eq_true rfl⟩ hl.1 rfl (Nat.le_of_ble_eq_true rfl) dX10_most_96 hf (fun o ho => c_X10_sumOfAreas l X hinj hZ N S1 o ho) (fun v96 S96 H locs hf hw => ?_)
            exact r_retI C hw dX10_most_99 hf
          · skip
            rcases ite_some hf with ⟨hc12_4, hf⟩ | ⟨hc12_4, hf⟩
            · refine lv_tableIn (tgt := 100) C.1.1 C.1.2.1 dX10_most_12 (by rw [hc12_4]; decide) (by rw [hc12_4]; decide) (by rw [hc12_4]; rfl) (by decide) ?_
              refine lv_aload_n C.1.1 C.1.2.1 dX10_most_100 rfl (lv_at hl 0 rfl) ?_
              refine r_callI (As := []) (rest := []) (rm := rmX10_greatestGeneration) C hw shC_0 ltC_0 cO10 tw5_29 tw5_31 tp_42 tw1_1 tw5_32 hd_X10_greatestGeneration rfl ⟨⟨rfl, rfl⟩, Nat.le_of_ble_eq_true rfl, Nat.le_of_ble_eq_true rfl⟩ hl.1 rfl (Nat.le_of_ble_eq_true rfl) dX10_most_101 hf (fun o ho => c_X10_greatestGeneration l X hinj hZ N S1 o ho) (fun v101 S101 H locs hf hw => ?_)
              exact r_retI C hw dX10_most_104 hf
            · skip
              rcases ite_some hf with ⟨hc12_5, hf⟩ | ⟨hc12_5, hf⟩
              · refine lv_tableIn (tgt := 105) C.1.1 C.1.2.1 dX10_most_12 (by rw [hc12_5]; decide) (by rw [hc12_5]; decide) (by rw [hc12_5]; rfl) (by decide) ?_
                refine lv_aload_n C.1.1 C.1.2.1 dX10_most_105 rfl (lv_at hl 0 rfl) ?_
                refine r_callI (As := []) (rest := []) (rm := rmX10_matchedBits) C hw shC_0 ltC_0 cO10 tw4_178 tw4_180 tp_38 tw1_1 tw4_181 hd_X10_matchedBits rfl ⟨⟨rfl, rfl⟩, Nat.le_of_ble_eq_true rfl, Nat.le_of_ble_eq_true rfl⟩ hl.1 rfl (Nat.le_of_ble_eq_true rfl) dX10_most_106 hf (fun o ho => c_X10_matchedBits l X hinj hZ N S1 o ho) (fun v106 S106 H locs hf hw => ?_)
                exact r_retI C hw dX10_most_109 hf
              · skip
                rcases ite_some hf with ⟨hc12_6, hf⟩ | ⟨hc12_6, hf⟩
                · refine lv_tableIn (tgt := 110) C.1.1 C.1.2.1 dX10_most_12 (by rw [hc12_6]; decide) (by rw [hc12_6]; decide) (by rw [hc12_6]; rfl) (by decide) ?_
                  refine lv_aload_n C.1.1 C.1.2.1 dX10_most_110 rfl (lv_at hl 0 rfl) ?_
                  refine r_callI (As := []) (rest := []) (rm := rmX10_widestKept) C hw shC_0 ltC_0 cO10 tw5_33 tw5_35 tp_43 tw1_1 tw5_36 hd_X10_widestKept rfl ⟨⟨rfl, rfl⟩, Nat.le_of_ble_eq_true rfl, Nat.le_of_ble_eq_true rfl⟩ hl.1 rfl (Nat.le_of_ble_eq_true rfl) dX10_most_111 hf (fun o ho => c_X10_widestKept l X hinj hZ N S1 o ho) (fun v111 S111 H locs hf hw => ?_)
                  exact r_retI C hw dX10_most_114 hf
                · skip
                  rcases ite_some hf with ⟨hc12_7, hf⟩ | ⟨hc12_7, hf⟩
                  · refine lv_tableIn (tgt := 115) C.1.1 C.1.2.1 dX10_most_12 (by rw [hc12_7]; decide) (by rw [hc12_7]; decide) (by rw [hc12_7]; rfl) (by decide) ?_
                    refine lv_aload_n C.1.1 C.1.2.1 dX10_most_115 rfl (lv_at hl 0 rfl) ?_
                    refine r_getR (k := 2) C hw shC_0 ltC_0 cO10 rfl (by decide) tw2_48 rfl dX10_most_116 ?_
                    refine r_callI (As := []) (rest := []) (rm := rmX0_greatestSample) C hw (is0_s is0_at4) (is0_l is0_at4) cO0 tw5_37 tw4_51 tw4_52 tw1_4 tw4_53 hd_X0_greatestSample rfl ⟨⟨rfl, rfl⟩, Nat.le_of_ble_eq_true rfl, Nat.le_of_ble_eq_true rfl⟩ hl.1 rfl (Nat.le_of_ble_eq_true rfl) dX10_most_119 hf (fun o ho => c_X0_greatestSample l X hinj hZ N S1 4 is0_at4 o ho) (fun v119 S119 H locs hf hw => ?_)
                    exact r_retI C hw dX10_most_122 hf
                  · skip
                    refine lv_tableOut (tgt := 123) C.1.1 C.1.2.1 dX10_most_12 (by rw [sw_in hsw]; omega) (by decide) ?_
                    refine r_ldcw (v := (-1000000)) C tw4_173 (by decide) dX10_most_123 ?_
                    exact r_retI C hw dX10_most_126 hf
  · refine r_ldcw (v := (-1000000)) C tw4_173 (by decide) dX10_most_7 ?_
    exact r_retI C hw dX10_most_10 hf
def f_X0_undergo_67 (c0 : Nat) (c1 : Nat) (N : Nat) (y0 : Int) (S : S2) : Option (Int × S2) := bI (f_X0_blend N S c0 y0) fun v67 S67 => rI v67 S67
def f_X0_undergo (N : Nat) (S : S2) (c0 : Nat) (a1 : Int) (a2 : Int) (a3 : Int) (c1 : Nat) : Option (Int × S2) := cI a1 0 (if a1 = 0 then cI a1 1 (if a1 = 1 then (f_X0_undergo_67 c0 c1 N) 1 S else (f_X0_undergo_67 c0 c1 N) 0 S) else (if a1 = 1 then cI a1 1 (if a1 = 1 then (f_X0_undergo_67 c0 c1 N) 1 S else (f_X0_undergo_67 c0 c1 N) 0 S) else (if a1 = 2 then bI (f_X0_flatten N S c0 c1) fun v74 S74 => rI v74 S74 else (if a1 = 3 then bI (f_X0_reverse N S c0) fun v79 S79 => rI v79 S79 else (if a1 = 4 then bI (f_X0_cap N S c0 a2) fun v85 S85 => rI v85 S85 else (if a1 = 5 then bI (f_X0_raise N S c0 a2) fun v91 S91 => rI v91 S91 else (if a1 = 6 then bI (f_X0_stretch N S c0 a2 a3) fun v98 S98 => rI v98 S98 else (if a1 = 7 then bI (f_X0_put N S c0 a2 a3) fun v105 S105 => rI v105 S105 else (if a1 = 8 then bI (f_X0_hush N S c0 a2) fun v111 S111 => rI v111 S111 else (if a1 = 9 then bI (f_X0_keepOnly N S c0 a2 a3) fun v118 S118 => rI v118 S118 else rI (-1) S))))))))))
abbrev rmX0_undergo : Room := { frames := 3, cells := 0, slots := 0, locals := 76 }
theorem hd_X0_undergo : yX0_undergo.cls ≠ "java/lang/invoke/MethodHandle" ∧ yX0_undergo.cls ≠ "java/lang/invoke/VarHandle" ∧ (parseMethodDescriptor yX0_undergo.desc).map (fun d => d.parameters.length) = some 4 := by decide +kernel
set_option maxRecDepth 100000 in
set_option maxHeartbeats 4000000 in
theorem w_X0_undergo_67 {p : Program} (l : Launch) {e : Env} {s : State} {m : MethodId} {args : Array Value} {below : List Frame} {meth : Method} {c : Code} {X : XT} (hinj : XInj X nC) (hZ : ZOK (Zc X)) (C : CX p s m args meth c cX0_undergo 5 RX0 (some .int) X nC (Zc X)) (out : Int × S2) (c0 : Nat) (c1 : Nat) (i0 : Is0 c0) (i1 : Is5 c1) : ∀ (N : Nat), ∀ (y0 : Int) (S : S2) (H : Heap) (locs : List Loc) (ls : Array Slot), f_X0_undergo_67 c0 c1 N y0 S = some out → WH X shC nC s S H locs → lv_has ls 5 [] → W p l e rmX0_undergo s m args below meth c H locs 0 0 (QI X shC nC s args below out) (F0 m 67 ls [.int (iz y0), .ref (X.2.2 c0)]) := by
  intro N y0 S H locs ls hf hw hl
  unfold f_X0_undergo_67 at hf
  refine r_callI (As := [.int (iz y0)]) (rest := []) (rm := rmX0_blend) C hw (is0_s i0) (is0_l i0) cO0 tw4_16 tw4_18 tp_28 tw1_4 tw4_19 hd_X0_blend rfl ⟨⟨rfl, rfl⟩, Nat.le_of_ble_eq_true rfl, Nat.le_of_ble_eq_true rfl⟩ hl.1 rfl (Nat.le_of_ble_eq_true rfl) dX0_undergo_67 hf (fun o ho => c_X0_blend l X hinj hZ N S c0 y0 i0 o ho) (fun v67 S67 H locs hf hw => ?_)
  exact r_retI C hw dX0_undergo_70 hf
set_option maxRecDepth 100000 in
set_option maxHeartbeats 4000000 in
theorem c_X0_undergo (l : Launch) (X : XT) (hinj : XInj X nC) (hZ : ZOK (Zc X)) (N : Nat) (S : S2) (c0 : Nat) (a1 : Int) (a2 : Int) (a3 : Int) (c1 : Nat) (i0 : Is0 c0) (i1 : Is5 c1) (out : Int × S2) (hf : f_X0_undergo N S c0 a1 a2 a3 c1 = some out) : MI l X shC nC (Zc X) yX0_undergo cX0_undergo 5 (some .int) rmX0_undergo [.ref (X.2.2 c0), .int (iz a1), .int (iz a2), .int (iz a3), .ref (X.2.2 c1)] S out := by
  refine met_I (own := RX0) (by decide) rfl hinj hZ (Nat.le_of_ble_eq_true rfl) (fun p e s m args below meth c C ls H locs hw hl => ?_)
  unfold f_X0_undergo at hf
  have hl : lv_has ls 5 [(0, .ref (X.2.2 c0)), (1, .int (iz a1)), (2, .int (iz a2)), (3, .int (iz a3)), (4, .ref (X.2.2 c1))] := hl
  refine lv_iload_n C.1.1 C.1.2.1 dX0_undergo_0 rfl (lv_at hl 1 rfl) ?_
  obtain ⟨⟨hsw, -⟩, hf⟩ := cI_some hf
  rcases ite_some hf with ⟨hc1_0, hf⟩ | ⟨hc1_0, hf⟩
  · refine lv_tableIn (tgt := 56) C.1.1 C.1.2.1 dX0_undergo_1 (by rw [hc1_0]; decide) (by rw [hc1_0]; decide) (by rw [hc1_0]; rfl) (by decide) ?_
    refine lv_aload_n C.1.1 C.1.2.1 dX0_undergo_56 rfl (lv_at hl 0 rfl) ?_
    refine lv_iload_n C.1.1 C.1.2.1 dX0_undergo_57 rfl (lv_at hl 1 rfl) ?_
    refine r_iconst (v := 1) C dX0_undergo_58 ?_
    refine r_icmp_ne C (tgt := 66) dX0_undergo_59 (by decide) hf (fun hf => ?_) (fun hf => ?_)
    · refine r_iconst (v := 0) C dX0_undergo_66 ?_
      exact (w_X0_undergo_67 l hinj hZ C out c0 c1 i0 i1 N) 0 S H locs ls hf hw (lv_sub hl [] rfl)
    · refine r_iconst (v := 1) C dX0_undergo_62 ?_
      refine lv_goto (tgt := 67) C.1.1 C.1.2.1 dX0_undergo_63 (by decide) ?_
      exact (w_X0_undergo_67 l hinj hZ C out c0 c1 i0 i1 N) 1 S H locs ls hf hw (lv_sub hl [] rfl)
  · skip
    rcases ite_some hf with ⟨hc1_1, hf⟩ | ⟨hc1_1, hf⟩
    · refine lv_tableIn (tgt := 56) C.1.1 C.1.2.1 dX0_undergo_1 (by rw [hc1_1]; decide) (by rw [hc1_1]; decide) (by rw [hc1_1]; rfl) (by decide) ?_
      refine lv_aload_n C.1.1 C.1.2.1 dX0_undergo_56 rfl (lv_at hl 0 rfl) ?_
      refine lv_iload_n C.1.1 C.1.2.1 dX0_undergo_57 rfl (lv_at hl 1 rfl) ?_
      refine r_iconst (v := 1) C dX0_undergo_58 ?_
      refine r_icmp_ne C (tgt := 66) dX0_undergo_59 (by decide) hf (fun hf => ?_) (fun hf => ?_)
      · refine r_iconst (v := 0) C dX0_undergo_66 ?_
        exact (w_X0_undergo_67 l hinj hZ C out c0 c1 i0 i1 N) 0 S H locs ls hf hw (lv_sub hl [] rfl)
      · refine r_iconst (v := 1) C dX0_undergo_62 ?_
        refine lv_goto (tgt := 67) C.1.1 C.1.2.1 dX0_undergo_63 (by decide) ?_
        exact (w_X0_undergo_67 l hinj hZ C out c0 c1 i0 i1 N) 1 S H locs ls hf hw (lv_sub hl [] rfl)
    · skip
      rcases ite_some hf with ⟨hc1_2, hf⟩ | ⟨hc1_2, hf⟩
      · refine lv_tableIn (tgt := 71) C.1.1 C.1.2.1 dX0_undergo_1 (by rw [hc1_2]; decide) (by rw [hc1_2]; decide) (by rw [hc1_2]; rfl) (by decide) ?_
        refine lv_aload_n C.1.1 C.1.2.1 dX0_undergo_71 rfl (lv_at hl 0 rfl) ?_
        refine lv_aload C.1.1 C.1.2.1 dX0_undergo_72 (lv_at hl 4 rfl) ?_
        refine r_callI (As := [.ref (X.2.2 c1)]) (rest := []) (rm := rmX0_flatten) C hw (is0_s i0) (is0_l i0) cO0 tw4_24 tw4_26 tp_29 tw1_4 tw4_27 hd_X0_flatten rfl ⟨⟨rfl, rfl⟩, Nat.le_of_ble_eq_true rfl, Nat.le_of_ble_eq_true rfl⟩ hl.1 rfl (Nat.le_of_ble_eq_true rfl) dX0_undergo_74 hf (fun o ho => c_X0_flatten l X hinj hZ N S c0 c1 i0 i1 o ho) (fun v74 S74 H locs hf hw => ?_)
        exact r_retI C hw dX0_undergo_77 hf
      · skip
        rcases ite_some hf with ⟨hc1_3, hf⟩ | ⟨hc1_3, hf⟩
        · refine lv_tableIn (tgt := 78) C.1.1 C.1.2.1 dX0_undergo_1 (by rw [hc1_3]; decide) (by rw [hc1_3]; decide) (by rw [hc1_3]; rfl) (by decide) ?_
          refine lv_aload_n C.1.1 C.1.2.1 dX0_undergo_78 rfl (lv_at hl 0 rfl) ?_
          refine r_callI (As := []) (rest := []) (rm := rmX0_reverse) C hw (is0_s i0) (is0_l i0) cO0 tw4_33 tw4_35 tp_30 tw1_4 tw4_36 hd_X0_reverse rfl ⟨⟨rfl, rfl⟩, Nat.le_of_ble_eq_true rfl, Nat.le_of_ble_eq_true rfl⟩ hl.1 rfl (Nat.le_of_ble_eq_true rfl) dX0_undergo_79 hf (fun o ho => c_X0_reverse l X hinj hZ N S c0 i0 o ho) (fun v79 S79 H locs hf hw => ?_)
          exact r_retI C hw dX0_undergo_82 hf
        · skip
          rcases ite_some hf with ⟨hc1_4, hf⟩ | ⟨hc1_4, hf⟩
          · refine lv_tableIn (tgt := 83) C.1.1 C.1.2.1 dX0_undergo_1 (by rw [hc1_4]; decide) (by rw [hc1_4]; decide) (by rw [hc1_4]; rfl) (by decide) ?_
            refine lv_aload_n C.1.1 C.1.2.1 dX0_undergo_83 rfl (lv_at hl 0 rfl) ?_
            refine lv_iload_n C.1.1 C.1.2.1 dX0_undergo_84 rfl (lv_at hl 2 rfl) ?_
            refine r_callI (As := [.int (iz a2)]) (rest := []) (rm := rmX0_cap) C hw (is0_s i0) (is0_l i0) cO0 tw4_37 tw4_39 tp_31 tw1_4 tw4_40 hd_X0_cap rfl ⟨⟨rfl, rfl⟩, Nat.le_of_ble_eq_true rfl, Nat.le_of_ble_eq_true rfl⟩ hl.1 rfl (Nat.le_of_ble_eq_true rfl) dX0_undergo_85 hf (fun o ho => c_X0_cap l X hinj hZ N S c0 a2 i0 o ho) (fun v85 S85 H locs hf hw => ?_)
            exact r_retI C hw dX0_undergo_88 hf
          · skip
            rcases ite_some hf with ⟨hc1_5, hf⟩ | ⟨hc1_5, hf⟩
            · refine lv_tableIn (tgt := 89) C.1.1 C.1.2.1 dX0_undergo_1 (by rw [hc1_5]; decide) (by rw [hc1_5]; decide) (by rw [hc1_5]; rfl) (by decide) ?_
              refine lv_aload_n C.1.1 C.1.2.1 dX0_undergo_89 rfl (lv_at hl 0 rfl) ?_
              refine lv_iload_n C.1.1 C.1.2.1 dX0_undergo_90 rfl (lv_at hl 2 rfl) ?_
              refine r_callI (As := [.int (iz a2)]) (rest := []) (rm := rmX0_raise) C hw (is0_s i0) (is0_l i0) cO0 tw4_41 tw4_43 tp_32 tw1_4 tw4_44 hd_X0_raise rfl ⟨⟨rfl, rfl⟩, Nat.le_of_ble_eq_true rfl, Nat.le_of_ble_eq_true rfl⟩ hl.1 rfl (Nat.le_of_ble_eq_true rfl) dX0_undergo_91 hf (fun o ho => c_X0_raise l X hinj hZ N S c0 a2 i0 o ho) (fun v91 S91 H locs hf hw => ?_)
              exact r_retI C hw dX0_undergo_94 hf
            · skip
              rcases ite_some hf with ⟨hc1_6, hf⟩ | ⟨hc1_6, hf⟩
              · refine lv_tableIn (tgt := 95) C.1.1 C.1.2.1 dX0_undergo_1 (by rw [hc1_6]; decide) (by rw [hc1_6]; decide) (by rw [hc1_6]; rfl) (by decide) ?_
                refine lv_aload_n C.1.1 C.1.2.1 dX0_undergo_95 rfl (lv_at hl 0 rfl) ?_
                refine lv_iload_n C.1.1 C.1.2.1 dX0_undergo_96 rfl (lv_at hl 2 rfl) ?_
                refine lv_iload_n C.1.1 C.1.2.1 dX0_undergo_97 rfl (lv_at hl 3 rfl) ?_
                refine r_callI (As := [.int (iz a2), .int (iz a3)]) (rest := []) (rm := rmX0_stretch) C hw (is0_s i0) (is0_l i0) cO0 tw4_46 tw4_48 tp_33 tw1_4 tw4_49 hd_X0_stretch rfl ⟨⟨rfl, rfl⟩, Nat.le_of_ble_eq_true rfl, Nat.le_of_ble_eq_true rfl⟩ hl.1 rfl (Nat.le_of_ble_eq_true rfl) dX0_undergo_98 hf (fun o ho => c_X0_stretch l X hinj hZ N S c0 a2 a3 i0 o ho) (fun v98 S98 H locs hf hw => ?_)
                exact r_retI C hw dX0_undergo_101 hf
              · skip
                rcases ite_some hf with ⟨hc1_7, hf⟩ | ⟨hc1_7, hf⟩
                · refine lv_tableIn (tgt := 102) C.1.1 C.1.2.1 dX0_undergo_1 (by rw [hc1_7]; decide) (by rw [hc1_7]; decide) (by rw [hc1_7]; rfl) (by decide) ?_
                  refine lv_aload_n C.1.1 C.1.2.1 dX0_undergo_102 rfl (lv_at hl 0 rfl) ?_
                  refine lv_iload_n C.1.1 C.1.2.1 dX0_undergo_103 rfl (lv_at hl 2 rfl) ?_
                  refine lv_iload_n C.1.1 C.1.2.1 dX0_undergo_104 rfl (lv_at hl 3 rfl) ?_
                  refine r_callI (As := [.int (iz a2), .int (iz a3)]) (rest := []) (rm := rmX0_put) C hw (is0_s i0) (is0_l i0) cO0 tw4_54 tw4_56 tp_34 tw1_4 tw4_57 hd_X0_put rfl ⟨⟨rfl, rfl⟩, Nat.le_of_ble_eq_true rfl, Nat.le_of_ble_eq_true rfl⟩ hl.1 rfl (Nat.le_of_ble_eq_true rfl) dX0_undergo_105 hf (fun o ho => c_X0_put l X hinj hZ N S c0 a2 a3 i0 o ho) (fun v105 S105 H locs hf hw => ?_)
                  exact r_retI C hw dX0_undergo_108 hf
                · skip
                  rcases ite_some hf with ⟨hc1_8, hf⟩ | ⟨hc1_8, hf⟩
                  · refine lv_tableIn (tgt := 109) C.1.1 C.1.2.1 dX0_undergo_1 (by rw [hc1_8]; decide) (by rw [hc1_8]; decide) (by rw [hc1_8]; rfl) (by decide) ?_
                    refine lv_aload_n C.1.1 C.1.2.1 dX0_undergo_109 rfl (lv_at hl 0 rfl) ?_
                    refine lv_iload_n C.1.1 C.1.2.1 dX0_undergo_110 rfl (lv_at hl 2 rfl) ?_
                    refine r_callI (As := [.int (iz a2)]) (rest := []) (rm := rmX0_hush) C hw (is0_s i0) (is0_l i0) cO0 tw4_58 tw4_60 tp_35 tw1_4 tw4_61 hd_X0_hush rfl ⟨⟨rfl, rfl⟩, Nat.le_of_ble_eq_true rfl, Nat.le_of_ble_eq_true rfl⟩ hl.1 rfl (Nat.le_of_ble_eq_true rfl) dX0_undergo_111 hf (fun o ho => c_X0_hush l X hinj hZ N S c0 a2 i0 o ho) (fun v111 S111 H locs hf hw => ?_)
                    exact r_retI C hw dX0_undergo_114 hf
                  · skip
                    rcases ite_some hf with ⟨hc1_9, hf⟩ | ⟨hc1_9, hf⟩
                    · refine lv_tableIn (tgt := 115) C.1.1 C.1.2.1 dX0_undergo_1 (by rw [hc1_9]; decide) (by rw [hc1_9]; decide) (by rw [hc1_9]; rfl) (by decide) ?_
                      refine lv_aload_n C.1.1 C.1.2.1 dX0_undergo_115 rfl (lv_at hl 0 rfl) ?_
                      refine lv_iload_n C.1.1 C.1.2.1 dX0_undergo_116 rfl (lv_at hl 2 rfl) ?_
                      refine lv_iload_n C.1.1 C.1.2.1 dX0_undergo_117 rfl (lv_at hl 3 rfl) ?_
                      refine r_callI (As := [.int (iz a2), .int (iz a3)]) (rest := []) (rm := rmX0_keepOnly) C hw (is0_s i0) (is0_l i0) cO0 tw4_62 tw4_64 tp_36 tw1_4 tw4_65 hd_X0_keepOnly rfl ⟨⟨rfl, rfl⟩, Nat.le_of_ble_eq_true rfl, Nat.le_of_ble_eq_true rfl⟩ hl.1 rfl (Nat.le_of_ble_eq_true rfl) dX0_undergo_118 hf (fun o ho => c_X0_keepOnly l X hinj hZ N S c0 a2 a3 i0 o ho) (fun v118 S118 H locs hf hw => ?_)
                      exact r_retI C hw dX0_undergo_121 hf
                    · skip
                      refine lv_tableOut (tgt := 122) C.1.1 C.1.2.1 dX0_undergo_1 (by rw [sw_in hsw]; omega) (by decide) ?_
                      refine r_iconst (v := (-1)) C dX0_undergo_122 ?_
                      exact r_retI C hw dX0_undergo_123 hf
def f_X3_hasName_36 (c0 : Nat) (c1 : Nat) (k3 : Int → Int → Int → S2 → Option (Int × S2)) (N : Nat) (x2 : Int) (x3 : Int) (x4 : Int) (S : S2) : Option (Int × S2) := k3 x2 x3 (x4 + 1) S
def f_X3_hasName_3 (c0 : Nat) (c1 : Nat) : Nat → Int → Int → Int → S2 → Option (Int × S2)
  | 0, _, _, _, _ => none
  | N + 1, x2, x3, x4, S => gI S c0 0 fun v6 => cI x4 v6 (if v6 ≤ x4 then rZ 0 S else aI S (c0 + 2) 8 x4 fun v18 => cI v18 x3 (if v18 = x3 then bI (f_X3_isNamed N S c0 x4 c1 x2) fun v28 S28 => cI v28 0 (if v28 = 0 then (f_X3_hasName_36 c0 c1 (f_X3_hasName_3 c0 c1 N) N) x2 x3 x4 S28 else rZ 1 S28) else (f_X3_hasName_36 c0 c1 (f_X3_hasName_3 c0 c1 N) N) x2 x3 x4 S))
def f_X3_hasName (N : Nat) (S : S2) (c0 : Nat) (c1 : Nat) (a2 : Int) (a3 : Int) : Option (Int × S2) := (f_X3_hasName_3 c0 c1 N) a2 a3 0 S
abbrev rmX3_hasName : Room := { frames := 2, cells := 0, slots := 0, locals := 46 }
theorem hd_X3_hasName : yX3_hasName.cls ≠ "java/lang/invoke/MethodHandle" ∧ yX3_hasName.cls ≠ "java/lang/invoke/VarHandle" ∧ (parseMethodDescriptor yX3_hasName.desc).map (fun d => d.parameters.length) = some 3 := by decide +kernel
set_option maxRecDepth 100000 in
set_option maxHeartbeats 4000000 in
theorem w_X3_hasName_36 {p : Program} (l : Launch) {e : Env} {s : State} {m : MethodId} {args : Array Value} {below : List Frame} {meth : Method} {c : Code} {X : XT} (hinj : XInj X nC) (hZ : ZOK (Zc X)) (C : CX p s m args meth c cX3_hasName 5 RX3 (some .boolean) X nC (Zc X)) (out : Int × S2) (c0 : Nat) (c1 : Nat) (i0 : Is3 c0) (i1 : Is9 c1) (k3 : Int → Int → Int → S2 → Option (Int × S2)) (hk3 : ∀ (x2 : Int) (x3 : Int) (x4 : Int) (S : S2) (H : Heap) (locs : List Loc) (ls : Array Slot), k3 x2 x3 x4 S = some out → WH X shC nC s S H locs → lv_has ls 5 [(0, .ref (X.2.2 c0)), (1, .ref (X.2.2 c1)), (2, .int (iz x2)), (3, .int (iz x3)), (4, .int (iz x4))] → W p l e rmX3_hasName s m args below meth c H locs 0 0 (QI X shC nC s args below out) (F0 m 3 ls [])) : ∀ (N : Nat), ∀ (x2 : Int) (x3 : Int) (x4 : Int) (S : S2) (H : Heap) (locs : List Loc) (ls : Array Slot), f_X3_hasName_36 c0 c1 k3 N x2 x3 x4 S = some out → WH X shC nC s S H locs → lv_has ls 5 [(0, .ref (X.2.2 c0)), (1, .ref (X.2.2 c1)), (2, .int (iz x2)), (3, .int (iz x3)), (4, .int (iz x4))] → W p l e rmX3_hasName s m args below meth c H locs 0 0 (QI X shC nC s args below out) (F0 m 36 ls []) := by
  intro N x2 x3 x4 S H locs ls hf hw hl
  unfold f_X3_hasName_36 at hf
  refine lv_iinc (v := iz (x4 + 1)) (lv' := [(4, .int (iz (x4 + 1))), (0, .ref (X.2.2 c0)), (1, .ref (X.2.2 c1)), (2, .int (iz x2)), (3, .int (iz x3))]) C.1.1 C.1.2.1 dX3_hasName_36 hl (k := 4) rfl (iz_add _ _) (by decide) rfl (fun ls hl => ?_)
  refine lv_goto (tgt := 3) C.1.1 C.1.2.1 dX3_hasName_39 (by decide) ?_
  exact hk3 x2 x3 (x4 + 1) S H locs ls hf hw (lv_sub hl [1, 2, 3, 4, 0] rfl)
set_option maxRecDepth 100000 in
set_option maxHeartbeats 4000000 in
theorem w_X3_hasName_3 {p : Program} (l : Launch) {e : Env} {s : State} {m : MethodId} {args : Array Value} {below : List Frame} {meth : Method} {c : Code} {X : XT} (hinj : XInj X nC) (hZ : ZOK (Zc X)) (C : CX p s m args meth c cX3_hasName 5 RX3 (some .boolean) X nC (Zc X)) (out : Int × S2) (c0 : Nat) (c1 : Nat) (i0 : Is3 c0) (i1 : Is9 c1) : ∀ (N : Nat), ∀ (x2 : Int) (x3 : Int) (x4 : Int) (S : S2) (H : Heap) (locs : List Loc) (ls : Array Slot), f_X3_hasName_3 c0 c1 N x2 x3 x4 S = some out → WH X shC nC s S H locs → lv_has ls 5 [(0, .ref (X.2.2 c0)), (1, .ref (X.2.2 c1)), (2, .int (iz x2)), (3, .int (iz x3)), (4, .int (iz x4))] → W p l e rmX3_hasName s m args below meth c H locs 0 0 (QI X shC nC s args below out) (F0 m 3 ls []) := by
  intro N
  induction N with
  | zero => intro x2 x3 x4 S H locs ls hf hw hl; cases hf
  | succ N ih =>
    intro x2 x3 x4 S H locs ls hf hw hl
    rw [f_X3_hasName_3.eq_2] at hf
    refine lv_iload C.1.1 C.1.2.1 dX3_hasName_3 (lv_at hl 4 rfl) ?_
    refine lv_aload_n C.1.1 C.1.2.1 dX3_hasName_5 rfl (lv_at hl 0 rfl) ?_
    refine r_getI (k := 0) C hw (is3_s i0) (is3_l i0) cO3 rfl (by decide) tw1_166 rfl dX3_hasName_6 hf (fun v6 hf => ?_)
    refine r_icmp_ge C (tgt := 42) dX3_hasName_9 (by decide) hf (fun hf => ?_) (fun hf => ?_)
    · refine r_iconst (v := 0) C dX3_hasName_42 ?_
      exact r_retZ C hw dX3_hasName_43 hf
    · refine lv_aload_n C.1.1 C.1.2.1 dX3_hasName_12 rfl (lv_at hl 0 rfl) ?_
      refine r_getR (k := 3) C hw (is3_s i0) (is3_l i0) cO3 rfl (by decide) tw1_174 rfl dX3_hasName_13 ?_
      refine lv_iload C.1.1 C.1.2.1 dX3_hasName_16 (lv_at hl 4 rfl) ?_
      refine r_iald C hw (is3_s2 i0) (is3_l2 i0) (Nat.le_of_ble_eq_true rfl) dX3_hasName_18 hf (fun v18 hf => ?_)
      refine lv_iload_n C.1.1 C.1.2.1 dX3_hasName_19 rfl (lv_at hl 3 rfl) ?_
      refine r_icmp_ne C (tgt := 36) dX3_hasName_20 (by decide) hf (fun hf => ?_) (fun hf => ?_)
      · exact (w_X3_hasName_36 l hinj hZ C out c0 c1 i0 i1 (f_X3_hasName_3 c0 c1 N) ih N) x2 x3 x4 S H locs ls hf hw (lv_sub hl [0, 1, 2, 3, 4] rfl)
      · refine lv_aload_n C.1.1 C.1.2.1 dX3_hasName_23 rfl (lv_at hl 0 rfl) ?_
        refine lv_iload C.1.1 C.1.2.1 dX3_hasName_24 (lv_at hl 4 rfl) ?_
        refine lv_aload_n C.1.1 C.1.2.1 dX3_hasName_26 rfl (lv_at hl 1 rfl) ?_
        refine lv_iload_n C.1.1 C.1.2.1 dX3_hasName_27 rfl (lv_at hl 2 rfl) ?_
        refine r_callI (As := [.int (iz x4), .ref (X.2.2 c1), .int (iz x2)]) (rest := []) (rm := rmX3_isNamed) C hw (is3_s i0) (is3_l i0) cO3 tw2_232 tw2_234 tp_9 tw1_6 tw2_235 hd_X3_isNamed rfl ⟨⟨rfl, rfl⟩, Nat.le_of_ble_eq_true rfl, Nat.le_of_ble_eq_true rfl⟩ hl.1 rfl (Nat.le_of_ble_eq_true rfl) dX3_hasName_28 hf (fun o ho => c_X3_isNamed l X hinj hZ N S c0 x4 c1 x2 i0 i1 o ho) (fun v28 S28 H locs hf hw => ?_)
        refine r_if_eq C (tgt := 36) dX3_hasName_31 (by decide) hf (fun hf => ?_) (fun hf => ?_)
        · exact (w_X3_hasName_36 l hinj hZ C out c0 c1 i0 i1 (f_X3_hasName_3 c0 c1 N) ih N) x2 x3 x4 S28 H locs ls hf hw (lv_sub hl [0, 1, 2, 3, 4] rfl)
        · refine r_iconst (v := 1) C dX3_hasName_34 ?_
          exact r_retZ C hw dX3_hasName_35 hf
set_option maxRecDepth 100000 in
set_option maxHeartbeats 4000000 in
theorem c_X3_hasName (l : Launch) (X : XT) (hinj : XInj X nC) (hZ : ZOK (Zc X)) (N : Nat) (S : S2) (c0 : Nat) (c1 : Nat) (a2 : Int) (a3 : Int) (i0 : Is3 c0) (i1 : Is9 c1) (out : Int × S2) (hf : f_X3_hasName N S c0 c1 a2 a3 = some out) : MI l X shC nC (Zc X) yX3_hasName cX3_hasName 5 (some .boolean) rmX3_hasName [.ref (X.2.2 c0), .ref (X.2.2 c1), .int (iz a2), .int (iz a3)] S out := by
  refine met_I (own := RX3) (by decide) rfl hinj hZ (Nat.le_of_ble_eq_true rfl) (fun p e s m args below meth c C ls H locs hw hl => ?_)
  unfold f_X3_hasName at hf
  have hl : lv_has ls 5 [(0, .ref (X.2.2 c0)), (1, .ref (X.2.2 c1)), (2, .int (iz a2)), (3, .int (iz a3))] := hl
  refine r_iconst (v := 0) C dX3_hasName_0 ?_
  refine lv_istore (lv' := [(4, .int (iz 0)), (0, .ref (X.2.2 c0)), (1, .ref (X.2.2 c1)), (2, .int (iz a2)), (3, .int (iz a3))]) C.1.1 C.1.2.1 dX3_hasName_1 hl (by decide) rfl (fun ls hl => ?_)
  exact (w_X3_hasName_3 l hinj hZ C out c0 c1 i0 i1 N) a2 a3 0 S H locs ls hf hw (lv_sub hl [1, 2, 3, 4, 0] rfl)
def f_X5_find_108 (c0 : Nat) (c1 : Nat) : Nat → S2 → Option (S2)
  | 0, _ => none
  | N + 1, S => gI S c0 1 fun v109 => gI S c0 0 fun v113 => cI v109 v113 (if v113 ≤ v109 then rV S else gI S c0 1 fun v121 => bI (f_X5_persistenceOf N S c0 v121) fun v124 S124 => gI S124 c1 2 fun v128 => cI v124 v128 (if v124 ≤ v128 then rV S124 else gI S124 c0 1 fun v136 => uI S124 c0 1 (v136 + 1) fun S141 => (f_X5_find_108 c0 c1 N) S141))
def f_X5_find_73 (c0 : Nat) (c1 : Nat) (N : Nat) (S : S2) : Option (S2) := gI S c1 1 fun v87 => aI S (c0 + 1) 48 (v87 - 1) fun v92 => aI S (c1 + 1) 48 v92 fun v93 => sI S (c0 + 8) 48 0 v93 fun S94 => bV (f_X5_tellGenerations N S94 c0) fun S96 => bV (f_X5_giveNumbers N S96 c0) fun S100 => uI S100 c0 1 1 fun S105 => (f_X5_find_108 c0 c1 N) S105
def f_X5_find_48 (c0 : Nat) (c1 : Nat) (k73 : S2 → Option (S2)) : Nat → Int → S2 → Option (S2)
  | 0, _, _ => none
  | N + 1, x2, S => gI S c1 1 fun v50 => cI x2 v50 (if v50 ≤ x2 then k73 S else aI S (c0 + 1) 48 x2 fun v63 => bV (f_X5_come N S c0 c1 v63) fun S64 => (f_X5_find_48 c0 c1 k73 N) (x2 + 1) S64)
def f_X5_find_46 (c0 : Nat) (c1 : Nat) (N : Nat) (S : S2) : Option (S2) := (f_X5_find_48 c0 c1 (f_X5_find_73 c0 c1 N) N) 0 S
def f_X5_find_25 (c0 : Nat) (c1 : Nat) (k46 : S2 → Option (S2)) : Nat → Int → S2 → Option (S2)
  | 0, _, _ => none
  | N + 1, x2, S => gI S c1 1 fun v27 => cI x2 v27 (if v27 ≤ x2 then k46 S else sI S (c0 + 2) 48 x2 (-1) fun S39 => (f_X5_find_25 c0 c1 k46 N) (x2 + 1) S39)
def f_X5_find (N : Nat) (S : S2) (c0 : Nat) (c1 : Nat) : Option (S2) := uI S c0 0 0 fun S2 => uI S2 c0 1 0 fun S7 => gI S7 c1 1 fun v11 => cI v11 0 (if v11 = 0 then rV S7 else bV (f_X5_sortByHeight N S7 c0 c1) fun S20 => (f_X5_find_25 c0 c1 (f_X5_find_46 c0 c1 N) N) 0 S20)
abbrev rmX5_find : Room := { frames := 3, cells := 0, slots := 0, locals := 71 }
theorem hd_X5_find : yX5_find.cls ≠ "java/lang/invoke/MethodHandle" ∧ yX5_find.cls ≠ "java/lang/invoke/VarHandle" ∧ (parseMethodDescriptor yX5_find.desc).map (fun d => d.parameters.length) = some 1 := by decide +kernel
set_option maxRecDepth 100000 in
set_option maxHeartbeats 4000000 in
theorem w_X5_find_108 {p : Program} (l : Launch) {e : Env} {s : State} {m : MethodId} {args : Array Value} {below : List Frame} {meth : Method} {c : Code} {X : XT} (hinj : XInj X nC) (hZ : ZOK (Zc X)) (C : CX p s m args meth c cX5_find 3 RX5 none X nC (Zc X)) (out : S2) (c0 : Nat) (c1 : Nat) (i0 : Is5 c0) (i1 : Is0 c1) : ∀ (N : Nat), ∀ (S : S2) (H : Heap) (locs : List Loc) (ls : Array Slot), f_X5_find_108 c0 c1 N S = some out → WH X shC nC s S H locs → lv_has ls 3 [(0, .ref (X.2.2 c0)), (1, .ref (X.2.2 c1))] → W p l e rmX5_find s m args below meth c H locs 0 0 (QV X shC nC s args below out) (F0 m 108 ls []) := by
  intro N
  induction N with
  | zero => intro S H locs ls hf hw hl; cases hf
  | succ N ih =>
    intro S H locs ls hf hw hl
    rw [f_X5_find_108.eq_2] at hf
    refine lv_aload_n C.1.1 C.1.2.1 dX5_find_108 rfl (lv_at hl 0 rfl) ?_
    refine r_getI (k := 1) C hw (is5_s i0) (is5_l i0) cO5 rfl (by decide) tw1_113 rfl dX5_find_109 hf (fun v109 hf => ?_)
    refine lv_aload_n C.1.1 C.1.2.1 dX5_find_112 rfl (lv_at hl 0 rfl) ?_
    refine r_getI (k := 0) C hw (is5_s i0) (is5_l i0) cO5 rfl (by decide) tw1_111 rfl dX5_find_113 hf (fun v113 hf => ?_)
    refine r_icmp_ge C (tgt := 147) dX5_find_116 (by decide) hf (fun hf => ?_) (fun hf => ?_)
    · exact r_retV C hw dX5_find_147 hf
    · refine lv_aload_n C.1.1 C.1.2.1 dX5_find_119 rfl (lv_at hl 0 rfl) ?_
      refine lv_aload_n C.1.1 C.1.2.1 dX5_find_120 rfl (lv_at hl 0 rfl) ?_
      refine r_getI (k := 1) C hw (is5_s i0) (is5_l i0) cO5 rfl (by decide) tw1_113 rfl dX5_find_121 hf (fun v121 hf => ?_)
      refine r_callI (As := [.int (iz v121)]) (rest := []) (rm := rmX5_persistenceOf) C hw (is5_s i0) (is5_l i0) cO5 tw3_100 tw3_101 tw3_102 tw1_5 tw3_103 hd_X5_persistenceOf rfl ⟨⟨rfl, rfl⟩, Nat.le_of_ble_eq_true rfl, Nat.le_of_ble_eq_true rfl⟩ hl.1 rfl (Nat.le_of_ble_eq_true rfl) dX5_find_124 hf (fun o ho => c_X5_persistenceOf l X hinj hZ N S c0 v121 i0 o ho) (fun v124 S124 H locs hf hw => ?_)
      refine lv_aload_n C.1.1 C.1.2.1 dX5_find_127 rfl (lv_at hl 1 rfl) ?_
      refine r_getI (k := 2) C hw (is0_s i1) (is0_l i1) cO0 rfl (by decide) tw1_95 rfl dX5_find_128 hf (fun v128 hf => ?_)
      refine r_icmp_le C (tgt := 147) dX5_find_131 (by decide) hf (fun hf => ?_) (fun hf => ?_)
      · exact r_retV C hw dX5_find_147 hf
      · refine lv_aload_n C.1.1 C.1.2.1 dX5_find_134 rfl (lv_at hl 0 rfl) ?_
        refine lv_dup C.1.1 C.1.2.1 dX5_find_135 rfl ?_
        refine r_getI (k := 1) C hw (is5_s i0) (is5_l i0) cO5 rfl (by decide) tw1_113 rfl dX5_find_136 hf (fun v136 hf => ?_)
        refine r_iconst (v := 1) C dX5_find_139 ?_
        refine r_iadd C dX5_find_140 ?_
        refine r_putI (k := 1) C hw (is5_s i0) (is5_l i0) cO5 rfl (by decide) tw1_113 rfl rfl rfl dX5_find_141 hf (fun S141 H locs hf hw => ?_)
        refine lv_goto (tgt := 108) C.1.1 C.1.2.1 dX5_find_144 (by decide) ?_
        exact ih S141 H locs ls hf hw (lv_sub hl [0, 1] rfl)
set_option maxRecDepth 100000 in
set_option maxHeartbeats 4000000 in
theorem w_X5_find_73 {p : Program} (l : Launch) {e : Env} {s : State} {m : MethodId} {args : Array Value} {below : List Frame} {meth : Method} {c : Code} {X : XT} (hinj : XInj X nC) (hZ : ZOK (Zc X)) (C : CX p s m args meth c cX5_find 3 RX5 none X nC (Zc X)) (out : S2) (c0 : Nat) (c1 : Nat) (i0 : Is5 c0) (i1 : Is0 c1) : ∀ (N : Nat), ∀ (S : S2) (H : Heap) (locs : List Loc) (ls : Array Slot), f_X5_find_73 c0 c1 N S = some out → WH X shC nC s S H locs → lv_has ls 3 [(0, .ref (X.2.2 c0)), (1, .ref (X.2.2 c1))] → W p l e rmX5_find s m args below meth c H locs 0 0 (QV X shC nC s args below out) (F0 m 73 ls []) := by
  intro N S H locs ls hf hw hl
  unfold f_X5_find_73 at hf
  refine lv_aload_n C.1.1 C.1.2.1 dX5_find_73 rfl (lv_at hl 0 rfl) ?_
  refine r_getR (k := 9) C hw (is5_s i0) (is5_l i0) cO5 rfl (by decide) tw1_123 rfl dX5_find_74 ?_
  refine r_iconst (v := 0) C dX5_find_77 ?_
  refine lv_aload_n C.1.1 C.1.2.1 dX5_find_78 rfl (lv_at hl 1 rfl) ?_
  refine r_getR (k := 0) C hw (is0_s i1) (is0_l i1) cO0 rfl (by decide) tw1_86 rfl dX5_find_79 ?_
  refine lv_aload_n C.1.1 C.1.2.1 dX5_find_82 rfl (lv_at hl 0 rfl) ?_
  refine r_getR (k := 2) C hw (is5_s i0) (is5_l i0) cO5 rfl (by decide) tw1_116 rfl dX5_find_83 ?_
  refine lv_aload_n C.1.1 C.1.2.1 dX5_find_86 rfl (lv_at hl 1 rfl) ?_
  refine r_getI (k := 1) C hw (is0_s i1) (is0_l i1) cO0 rfl (by decide) tw1_91 rfl dX5_find_87 hf (fun v87 hf => ?_)
  refine r_iconst (v := 1) C dX5_find_90 ?_
  refine r_isub C dX5_find_91 ?_
  refine r_iald C hw (is5_s1 i0) (is5_l1 i0) (Nat.le_of_ble_eq_true rfl) dX5_find_92 hf (fun v92 hf => ?_)
  refine r_iald C hw (is0_s1 i1) (is0_l1 i1) (Nat.le_of_ble_eq_true rfl) dX5_find_93 hf (fun v93 hf => ?_)
  refine r_iast C hw (is5_s8 i0) (is5_l8 i0) (Nat.le_of_ble_eq_true rfl) dX5_find_94 hf (fun S94 H locs hf hw => ?_)
  refine lv_aload_n C.1.1 C.1.2.1 dX5_find_95 rfl (lv_at hl 0 rfl) ?_
  refine r_callV (As := []) (rest := []) (rm := rmX5_tellGenerations) C hw (is5_s i0) (is5_l i0) cO5 tw3_88 tw3_90 tp_18 tw1_5 tw3_91 hd_X5_tellGenerations rfl ⟨⟨rfl, rfl⟩, Nat.le_of_ble_eq_true rfl, Nat.le_of_ble_eq_true rfl⟩ hl.1 rfl (Nat.le_of_ble_eq_true rfl) dX5_find_96 hf (fun o ho => c_X5_tellGenerations l X hinj hZ N S94 c0 i0 o ho) (fun S96 H locs hf hw => ?_)
  refine lv_aload_n C.1.1 C.1.2.1 dX5_find_99 rfl (lv_at hl 0 rfl) ?_
  refine r_callV (As := []) (rest := []) (rm := rmX5_giveNumbers) C hw (is5_s i0) (is5_l i0) cO5 tw3_92 tw3_94 tp_19 tw1_5 tw3_95 hd_X5_giveNumbers rfl ⟨⟨rfl, rfl⟩, Nat.le_of_ble_eq_true rfl, Nat.le_of_ble_eq_true rfl⟩ hl.1 rfl (Nat.le_of_ble_eq_true rfl) dX5_find_100 hf (fun o ho => c_X5_giveNumbers l X hinj hZ N S96 c0 i0 o ho) (fun S100 H locs hf hw => ?_)
  refine lv_aload_n C.1.1 C.1.2.1 dX5_find_103 rfl (lv_at hl 0 rfl) ?_
  refine r_iconst (v := 1) C dX5_find_104 ?_
  refine r_putI (k := 1) C hw (is5_s i0) (is5_l i0) cO5 rfl (by decide) tw1_113 rfl rfl rfl dX5_find_105 hf (fun S105 H locs hf hw => ?_)
  exact (w_X5_find_108 l hinj hZ C out c0 c1 i0 i1 N) S105 H locs ls hf hw (lv_sub hl [0, 1] rfl)
set_option maxRecDepth 100000 in
set_option maxHeartbeats 4000000 in
theorem w_X5_find_48 {p : Program} (l : Launch) {e : Env} {s : State} {m : MethodId} {args : Array Value} {below : List Frame} {meth : Method} {c : Code} {X : XT} (hinj : XInj X nC) (hZ : ZOK (Zc X)) (C : CX p s m args meth c cX5_find 3 RX5 none X nC (Zc X)) (out : S2) (c0 : Nat) (c1 : Nat) (i0 : Is5 c0) (i1 : Is0 c1) (k73 : S2 → Option (S2)) (hk73 : ∀ (S : S2) (H : Heap) (locs : List Loc) (ls : Array Slot), k73 S = some out → WH X shC nC s S H locs → lv_has ls 3 [(0, .ref (X.2.2 c0)), (1, .ref (X.2.2 c1))] → W p l e rmX5_find s m args below meth c H locs 0 0 (QV X shC nC s args below out) (F0 m 73 ls [])) : ∀ (N : Nat), ∀ (x2 : Int) (S : S2) (H : Heap) (locs : List Loc) (ls : Array Slot), f_X5_find_48 c0 c1 k73 N x2 S = some out → WH X shC nC s S H locs → lv_has ls 3 [(0, .ref (X.2.2 c0)), (1, .ref (X.2.2 c1)), (2, .int (iz x2))] → W p l e rmX5_find s m args below meth c H locs 0 0 (QV X shC nC s args below out) (F0 m 48 ls []) := by
  intro N
  induction N with
  | zero => intro x2 S H locs ls hf hw hl; cases hf
  | succ N ih =>
    intro x2 S H locs ls hf hw hl
    rw [f_X5_find_48.eq_2] at hf
    refine lv_iload_n C.1.1 C.1.2.1 dX5_find_48 rfl (lv_at hl 2 rfl) ?_
    refine lv_aload_n C.1.1 C.1.2.1 dX5_find_49 rfl (lv_at hl 1 rfl) ?_
    refine r_getI (k := 1) C hw (is0_s i1) (is0_l i1) cO0 rfl (by decide) tw1_91 rfl dX5_find_50 hf (fun v50 hf => ?_)
    refine r_icmp_ge C (tgt := 73) dX5_find_53 (by decide) hf (fun hf => ?_) (fun hf => ?_)
    · exact hk73 S H locs ls hf hw (lv_sub hl [0, 1] rfl)
    · refine lv_aload_n C.1.1 C.1.2.1 dX5_find_56 rfl (lv_at hl 0 rfl) ?_
      refine lv_aload_n C.1.1 C.1.2.1 dX5_find_57 rfl (lv_at hl 1 rfl) ?_
      refine lv_aload_n C.1.1 C.1.2.1 dX5_find_58 rfl (lv_at hl 0 rfl) ?_
      refine r_getR (k := 2) C hw (is5_s i0) (is5_l i0) cO5 rfl (by decide) tw1_116 rfl dX5_find_59 ?_
      refine lv_iload_n C.1.1 C.1.2.1 dX5_find_62 rfl (lv_at hl 2 rfl) ?_
      refine r_iald C hw (is5_s1 i0) (is5_l1 i0) (Nat.le_of_ble_eq_true rfl) dX5_find_63 hf (fun v63 hf => ?_)
      refine r_callV (As := [.ref (X.2.2 c1), .int (iz v63)]) (rest := []) (rm := rmX5_come) C hw (is5_s i0) (is5_l i0) cO5 tw3_70 tw3_72 tp_15 tw1_5 tw3_73 hd_X5_come rfl ⟨⟨rfl, rfl⟩, Nat.le_of_ble_eq_true rfl, Nat.le_of_ble_eq_true rfl⟩ hl.1 rfl (Nat.le_of_ble_eq_true rfl) dX5_find_64 hf (fun o ho => c_X5_come l X hinj hZ N S c0 c1 v63 i0 i1 o ho) (fun S64 H locs hf hw => ?_)
      refine lv_iinc (v := iz (x2 + 1)) (lv' := [(2, .int (iz (x2 + 1))), (0, .ref (X.2.2 c0)), (1, .ref (X.2.2 c1))]) C.1.1 C.1.2.1 dX5_find_67 hl (k := 2) rfl (iz_add _ _) (by decide) rfl (fun ls hl => ?_)
      refine lv_goto (tgt := 48) C.1.1 C.1.2.1 dX5_find_70 (by decide) ?_
      exact ih (x2 + 1) S64 H locs ls hf hw (lv_sub hl [1, 2, 0] rfl)
set_option maxRecDepth 100000 in
set_option maxHeartbeats 4000000 in
theorem w_X5_find_46 {p : Program} (l : Launch) {e : Env} {s : State} {m : MethodId} {args : Array Value} {below : List Frame} {meth : Method} {c : Code} {X : XT} (hinj : XInj X nC) (hZ : ZOK (Zc X)) (C : CX p s m args meth c cX5_find 3 RX5 none X nC (Zc X)) (out : S2) (c0 : Nat) (c1 : Nat) (i0 : Is5 c0) (i1 : Is0 c1) : ∀ (N : Nat), ∀ (S : S2) (H : Heap) (locs : List Loc) (ls : Array Slot), f_X5_find_46 c0 c1 N S = some out → WH X shC nC s S H locs → lv_has ls 3 [(0, .ref (X.2.2 c0)), (1, .ref (X.2.2 c1))] → W p l e rmX5_find s m args below meth c H locs 0 0 (QV X shC nC s args below out) (F0 m 46 ls []) := by
  intro N S H locs ls hf hw hl
  unfold f_X5_find_46 at hf
  refine r_iconst (v := 0) C dX5_find_46 ?_
  refine lv_istore_n (lv' := [(2, .int (iz 0)), (0, .ref (X.2.2 c0)), (1, .ref (X.2.2 c1))]) C.1.1 C.1.2.1 dX5_find_47 rfl hl (by decide) rfl (fun ls hl => ?_)
  exact (w_X5_find_48 l hinj hZ C out c0 c1 i0 i1 (f_X5_find_73 c0 c1 N) (w_X5_find_73 l hinj hZ C out c0 c1 i0 i1 N) N) 0 S H locs ls hf hw (lv_sub hl [1, 2, 0] rfl)
set_option maxRecDepth 100000 in
set_option maxHeartbeats 4000000 in
theorem w_X5_find_25 {p : Program} (l : Launch) {e : Env} {s : State} {m : MethodId} {args : Array Value} {below : List Frame} {meth : Method} {c : Code} {X : XT} (hinj : XInj X nC) (hZ : ZOK (Zc X)) (C : CX p s m args meth c cX5_find 3 RX5 none X nC (Zc X)) (out : S2) (c0 : Nat) (c1 : Nat) (i0 : Is5 c0) (i1 : Is0 c1) (k46 : S2 → Option (S2)) (hk46 : ∀ (S : S2) (H : Heap) (locs : List Loc) (ls : Array Slot), k46 S = some out → WH X shC nC s S H locs → lv_has ls 3 [(0, .ref (X.2.2 c0)), (1, .ref (X.2.2 c1))] → W p l e rmX5_find s m args below meth c H locs 0 0 (QV X shC nC s args below out) (F0 m 46 ls [])) : ∀ (N : Nat), ∀ (x2 : Int) (S : S2) (H : Heap) (locs : List Loc) (ls : Array Slot), f_X5_find_25 c0 c1 k46 N x2 S = some out → WH X shC nC s S H locs → lv_has ls 3 [(0, .ref (X.2.2 c0)), (1, .ref (X.2.2 c1)), (2, .int (iz x2))] → W p l e rmX5_find s m args below meth c H locs 0 0 (QV X shC nC s args below out) (F0 m 25 ls []) := by
  intro N
  induction N with
  | zero => intro x2 S H locs ls hf hw hl; cases hf
  | succ N ih =>
    intro x2 S H locs ls hf hw hl
    rw [f_X5_find_25.eq_2] at hf
    refine lv_iload_n C.1.1 C.1.2.1 dX5_find_25 rfl (lv_at hl 2 rfl) ?_
    refine lv_aload_n C.1.1 C.1.2.1 dX5_find_26 rfl (lv_at hl 1 rfl) ?_
    refine r_getI (k := 1) C hw (is0_s i1) (is0_l i1) cO0 rfl (by decide) tw1_91 rfl dX5_find_27 hf (fun v27 hf => ?_)
    refine r_icmp_ge C (tgt := 46) dX5_find_30 (by decide) hf (fun hf => ?_) (fun hf => ?_)
    · exact hk46 S H locs ls hf hw (lv_sub hl [0, 1] rfl)
    · refine lv_aload_n C.1.1 C.1.2.1 dX5_find_33 rfl (lv_at hl 0 rfl) ?_
      refine r_getR (k := 3) C hw (is5_s i0) (is5_l i0) cO5 rfl (by decide) tw1_117 rfl dX5_find_34 ?_
      refine lv_iload_n C.1.1 C.1.2.1 dX5_find_37 rfl (lv_at hl 2 rfl) ?_
      refine r_iconst (v := (-1)) C dX5_find_38 ?_
      refine r_iast C hw (is5_s2 i0) (is5_l2 i0) (Nat.le_of_ble_eq_true rfl) dX5_find_39 hf (fun S39 H locs hf hw => ?_)
      refine lv_iinc (v := iz (x2 + 1)) (lv' := [(2, .int (iz (x2 + 1))), (0, .ref (X.2.2 c0)), (1, .ref (X.2.2 c1))]) C.1.1 C.1.2.1 dX5_find_40 hl (k := 2) rfl (iz_add _ _) (by decide) rfl (fun ls hl => ?_)
      refine lv_goto (tgt := 25) C.1.1 C.1.2.1 dX5_find_43 (by decide) ?_
      exact ih (x2 + 1) S39 H locs ls hf hw (lv_sub hl [1, 2, 0] rfl)
set_option maxRecDepth 100000 in
set_option maxHeartbeats 4000000 in
theorem c_X5_find (l : Launch) (X : XT) (hinj : XInj X nC) (hZ : ZOK (Zc X)) (N : Nat) (S : S2) (c0 : Nat) (c1 : Nat) (i0 : Is5 c0) (i1 : Is0 c1) (out : S2) (hf : f_X5_find N S c0 c1 = some out) : MV l X shC nC (Zc X) yX5_find cX5_find 3 none rmX5_find [.ref (X.2.2 c0), .ref (X.2.2 c1)] S out := by
  refine met_V (own := RX5) (by decide) rfl hinj hZ (Nat.le_of_ble_eq_true rfl) (fun p e s m args below meth c C ls H locs hw hl => ?_)
  unfold f_X5_find at hf
  have hl : lv_has ls 3 [(0, .ref (X.2.2 c0)), (1, .ref (X.2.2 c1))] := hl
  refine lv_aload_n C.1.1 C.1.2.1 dX5_find_0 rfl (lv_at hl 0 rfl) ?_
  refine r_iconst (v := 0) C dX5_find_1 ?_
  refine r_putI (k := 0) C hw (is5_s i0) (is5_l i0) cO5 rfl (by decide) tw1_111 rfl rfl rfl dX5_find_2 hf (fun S2 H locs hf hw => ?_)
  refine lv_aload_n C.1.1 C.1.2.1 dX5_find_5 rfl (lv_at hl 0 rfl) ?_
  refine r_iconst (v := 0) C dX5_find_6 ?_
  refine r_putI (k := 1) C hw (is5_s i0) (is5_l i0) cO5 rfl (by decide) tw1_113 rfl rfl rfl dX5_find_7 hf (fun S7 H locs hf hw => ?_)
  refine lv_aload_n C.1.1 C.1.2.1 dX5_find_10 rfl (lv_at hl 1 rfl) ?_
  refine r_getI (k := 1) C hw (is0_s i1) (is0_l i1) cO0 rfl (by decide) tw1_91 rfl dX5_find_11 hf (fun v11 hf => ?_)
  refine r_if_ne C (tgt := 18) dX5_find_14 (by decide) hf (fun hf => ?_) (fun hf => ?_)
  · refine lv_aload_n C.1.1 C.1.2.1 dX5_find_18 rfl (lv_at hl 0 rfl) ?_
    refine lv_aload_n C.1.1 C.1.2.1 dX5_find_19 rfl (lv_at hl 1 rfl) ?_
    refine r_callV (As := [.ref (X.2.2 c1)]) (rest := []) (rm := rmX5_sortByHeight) C hw (is5_s i0) (is5_l i0) cO5 tw3_66 tw3_68 tp_14 tw1_5 tw3_69 hd_X5_sortByHeight rfl ⟨⟨rfl, rfl⟩, Nat.le_of_ble_eq_true rfl, Nat.le_of_ble_eq_true rfl⟩ hl.1 rfl (Nat.le_of_ble_eq_true rfl) dX5_find_20 hf (fun o ho => c_X5_sortByHeight l X hinj hZ N S7 c0 c1 i0 i1 o ho) (fun S20 H locs hf hw => ?_)
    refine r_iconst (v := 0) C dX5_find_23 ?_
    refine lv_istore_n (lv' := [(2, .int (iz 0)), (0, .ref (X.2.2 c0)), (1, .ref (X.2.2 c1))]) C.1.1 C.1.2.1 dX5_find_24 rfl hl (by decide) rfl (fun ls hl => ?_)
    exact (w_X5_find_25 l hinj hZ C out c0 c1 i0 i1 (f_X5_find_46 c0 c1 N) (w_X5_find_46 l hinj hZ C out c0 c1 i0 i1 N) N) 0 S20 H locs ls hf hw (lv_sub hl [1, 2, 0] rfl)
  · exact r_retV C hw dX5_find_17 hf
def f_X6_readLine_37 (c0 : Nat) (c1 : Nat) (N : Nat) (S : S2) : Option (Int × S2) := gI S c0 4 fun v39 => bI (f_X6_fail N S c0 v39) fun v42 S42 => rZ v42 S42
def f_X6_readLine (N : Nat) (S : S2) (c0 : Nat) (c1 : Nat) : Option (Int × S2) := bI (f_X6_readWord N S c0) fun v1 S1 => cI v1 0 (if v1 = 0 then rZ 0 S1 else gI S1 c0 5 fun v10 => cI v10 6 (if 6 < v10 then (f_X6_readLine_37 c0 c1 N) S1 else gI S1 c0 4 fun v24 => gI S1 c0 5 fun v28 => bI (f_X3_hasName N S1 c1 (c0 + 1) v24 v28) fun v31 S31 => cI v31 0 (if v31 = 0 then bI (f_X6_readNumber N S31 c0 0 47) fun v50 S50 => cI v50 0 (if v50 = 0 then rZ 0 S50 else gI S50 c0 4 fun v64 => gI S50 c0 5 fun v68 => gI S50 c0 3 fun v72 => bV (f_X3_add N S50 c1 (c0 + 1) v64 v68 v72) fun S75 => rZ 1 S75) else (f_X6_readLine_37 c0 c1 N) S31)))
abbrev rmX6_readLine : Room := { frames := 3, cells := 0, slots := 0, locals := 70 }
theorem hd_X6_readLine : yX6_readLine.cls ≠ "java/lang/invoke/MethodHandle" ∧ yX6_readLine.cls ≠ "java/lang/invoke/VarHandle" ∧ (parseMethodDescriptor yX6_readLine.desc).map (fun d => d.parameters.length) = some 1 := by decide +kernel
set_option maxRecDepth 100000 in
set_option maxHeartbeats 4000000 in
theorem w_X6_readLine_37 {p : Program} (l : Launch) {e : Env} {s : State} {m : MethodId} {args : Array Value} {below : List Frame} {meth : Method} {c : Code} {X : XT} (hinj : XInj X nC) (hZ : ZOK (Zc X)) (C : CX p s m args meth c cX6_readLine 2 RX6 (some .boolean) X nC (Zc X)) (out : Int × S2) (c0 : Nat) (c1 : Nat) (i0 : Is6 c0) (i1 : Is3 c1) : ∀ (N : Nat), ∀ (S : S2) (H : Heap) (locs : List Loc) (ls : Array Slot), f_X6_readLine_37 c0 c1 N S = some out → WH X shC nC s S H locs → lv_has ls 2 [(0, .ref (X.2.2 c0))] → W p l e rmX6_readLine s m args below meth c H locs 0 0 (QI X shC nC s args below out) (F0 m 37 ls []) := by
  intro N S H locs ls hf hw hl
  unfold f_X6_readLine_37 at hf
  refine lv_aload_n C.1.1 C.1.2.1 dX6_readLine_37 rfl (lv_at hl 0 rfl) ?_
  refine lv_aload_n C.1.1 C.1.2.1 dX6_readLine_38 rfl (lv_at hl 0 rfl) ?_
  refine r_getI (k := 4) C hw (is6_s i0) (is6_l i0) cO6 rfl (by decide) tw1_58 rfl dX6_readLine_39 hf (fun v39 hf => ?_)
  refine r_callI (As := [.int (iz v39)]) (rest := []) (rm := rmX6_fail) C hw (is6_s i0) (is6_l i0) cO6 tw2_152 tw2_154 tp_4 tw1_2 tw2_155 hd_X6_fail rfl ⟨⟨rfl, rfl⟩, Nat.le_of_ble_eq_true rfl, Nat.le_of_ble_eq_true rfl⟩ hl.1 rfl (Nat.le_of_ble_eq_true rfl) dX6_readLine_42 hf (fun o ho => c_X6_fail l X hinj hZ N S c0 v39 i0 o ho) (fun v42 S42 H locs hf hw => ?_)
  exact r_retZ C hw dX6_readLine_45 hf
set_option maxRecDepth 100000 in
set_option maxHeartbeats 4000000 in
theorem c_X6_readLine (l : Launch) (X : XT) (hinj : XInj X nC) (hZ : ZOK (Zc X)) (N : Nat) (S : S2) (c0 : Nat) (c1 : Nat) (i0 : Is6 c0) (i1 : Is3 c1) (out : Int × S2) (hf : f_X6_readLine N S c0 c1 = some out) : MI l X shC nC (Zc X) yX6_readLine cX6_readLine 2 (some .boolean) rmX6_readLine [.ref (X.2.2 c0), .ref (X.2.2 c1)] S out := by
  refine met_I (own := RX6) (by decide) rfl hinj hZ (Nat.le_of_ble_eq_true rfl) (fun p e s m args below meth c C ls H locs hw hl => ?_)
  unfold f_X6_readLine at hf
  have hl : lv_has ls 2 [(0, .ref (X.2.2 c0)), (1, .ref (X.2.2 c1))] := hl
  refine lv_aload_n C.1.1 C.1.2.1 dX6_readLine_0 rfl (lv_at hl 0 rfl) ?_
  refine r_callI (As := []) (rest := []) (rm := rmX6_readWord) C hw (is6_s i0) (is6_l i0) cO6 tw2_135 tw2_137 tp_2 tw1_2 tw2_138 hd_X6_readWord rfl ⟨⟨rfl, rfl⟩, Nat.le_of_ble_eq_true rfl, Nat.le_of_ble_eq_true rfl⟩ hl.1 rfl (Nat.le_of_ble_eq_true rfl) dX6_readLine_1 hf (fun o ho => c_X6_readWord l X hinj hZ N S c0 i0 o ho) (fun v1 S1 H locs hf hw => ?_)
  refine r_if_ne C (tgt := 9) dX6_readLine_4 (by decide) hf (fun hf => ?_) (fun hf => ?_)
  · refine lv_aload_n C.1.1 C.1.2.1 dX6_readLine_9 rfl (lv_at hl 0 rfl) ?_
    refine r_getI (k := 5) C hw (is6_s i0) (is6_l i0) cO6 rfl (by decide) tw1_59 rfl dX6_readLine_10 hf (fun v10 hf => ?_)
    refine r_bipush (v := 6) C dX6_readLine_13 (by decide) ?_
    refine r_icmp_gt C (tgt := 37) dX6_readLine_15 (by decide) hf (fun hf => ?_) (fun hf => ?_)
    · exact (w_X6_readLine_37 l hinj hZ C out c0 c1 i0 i1 N) S1 H locs ls hf hw (lv_sub hl [0] rfl)
    · refine lv_aload_n C.1.1 C.1.2.1 dX6_readLine_18 rfl (lv_at hl 1 rfl) ?_
      refine lv_aload_n C.1.1 C.1.2.1 dX6_readLine_19 rfl (lv_at hl 0 rfl) ?_
      refine r_getR (k := 0) C hw (is6_s i0) (is6_l i0) cO6 rfl (by decide) tw1_53 rfl dX6_readLine_20 ?_
      refine lv_aload_n C.1.1 C.1.2.1 dX6_readLine_23 rfl (lv_at hl 0 rfl) ?_
      refine r_getI (k := 4) C hw (is6_s i0) (is6_l i0) cO6 rfl (by decide) tw1_58 rfl dX6_readLine_24 hf (fun v24 hf => ?_)
      refine lv_aload_n C.1.1 C.1.2.1 dX6_readLine_27 rfl (lv_at hl 0 rfl) ?_
      refine r_getI (k := 5) C hw (is6_s i0) (is6_l i0) cO6 rfl (by decide) tw1_59 rfl dX6_readLine_28 hf (fun v28 hf => ?_)
      refine r_callI (As := [.ref (X.2.2 (c0 + 1)), .int (iz v24), .int (iz v28)]) (rest := []) (rm := rmX3_hasName) C hw (is3_s i1) (is3_l i1) cO3 tw2_228 tw2_229 tw2_230 tw1_6 tw2_231 hd_X3_hasName rfl ⟨⟨rfl, rfl⟩, Nat.le_of_ble_eq_true rfl, Nat.le_of_ble_eq_true rfl⟩ hl.1 rfl (Nat.le_of_ble_eq_true rfl) dX6_readLine_31 hf (fun o ho => c_X3_hasName l X hinj hZ N S1 c1 (c0 + 1) v24 v28 i1 (is6_o1 i0) o ho) (fun v31 S31 H locs hf hw => ?_)
      refine r_if_eq C (tgt := 46) dX6_readLine_34 (by decide) hf (fun hf => ?_) (fun hf => ?_)
      · refine lv_aload_n C.1.1 C.1.2.1 dX6_readLine_46 rfl (lv_at hl 0 rfl) ?_
        refine r_iconst (v := 0) C dX6_readLine_47 ?_
        refine r_bipush (v := 47) C dX6_readLine_48 (by decide) ?_
        refine r_callI (As := [.int (iz 0), .int (iz 47)]) (rest := []) (rm := rmX6_readNumber) C hw (is6_s i0) (is6_l i0) cO6 tw2_213 tw2_215 tp_7 tw1_2 tw2_216 hd_X6_readNumber rfl ⟨⟨rfl, rfl⟩, Nat.le_of_ble_eq_true rfl, Nat.le_of_ble_eq_true rfl⟩ hl.1 rfl (Nat.le_of_ble_eq_true rfl) dX6_readLine_50 hf (fun o ho => c_X6_readNumber l X hinj hZ N S31 c0 0 47 i0 o ho) (fun v50 S50 H locs hf hw => ?_)
        refine r_if_ne C (tgt := 58) dX6_readLine_53 (by decide) hf (fun hf => ?_) (fun hf => ?_)
        · refine lv_aload_n C.1.1 C.1.2.1 dX6_readLine_58 rfl (lv_at hl 1 rfl) ?_
          refine lv_aload_n C.1.1 C.1.2.1 dX6_readLine_59 rfl (lv_at hl 0 rfl) ?_
          refine r_getR (k := 0) C hw (is6_s i0) (is6_l i0) cO6 rfl (by decide) tw1_53 rfl dX6_readLine_60 ?_
          refine lv_aload_n C.1.1 C.1.2.1 dX6_readLine_63 rfl (lv_at hl 0 rfl) ?_
          refine r_getI (k := 4) C hw (is6_s i0) (is6_l i0) cO6 rfl (by decide) tw1_58 rfl dX6_readLine_64 hf (fun v64 hf => ?_)
          refine lv_aload_n C.1.1 C.1.2.1 dX6_readLine_67 rfl (lv_at hl 0 rfl) ?_
          refine r_getI (k := 5) C hw (is6_s i0) (is6_l i0) cO6 rfl (by decide) tw1_59 rfl dX6_readLine_68 hf (fun v68 hf => ?_)
          refine lv_aload_n C.1.1 C.1.2.1 dX6_readLine_71 rfl (lv_at hl 0 rfl) ?_
          refine r_getI (k := 3) C hw (is6_s i0) (is6_l i0) cO6 rfl (by decide) tw1_57 rfl dX6_readLine_72 hf (fun v72 hf => ?_)
          refine r_callV (As := [.ref (X.2.2 (c0 + 1)), .int (iz v64), .int (iz v68), .int (iz v72)]) (rest := []) (rm := rmX3_add) C hw (is3_s i1) (is3_l i1) cO3 tw3_1 tw3_2 tw3_3 tw1_6 tw3_4 hd_X3_add rfl ⟨⟨rfl, rfl⟩, Nat.le_of_ble_eq_true rfl, Nat.le_of_ble_eq_true rfl⟩ hl.1 rfl (Nat.le_of_ble_eq_true rfl) dX6_readLine_75 hf (fun o ho => c_X3_add l X hinj hZ N S50 c1 (c0 + 1) v64 v68 v72 i1 (is6_o1 i0) o ho) (fun S75 H locs hf hw => ?_)
          refine r_iconst (v := 1) C dX6_readLine_78 ?_
          exact r_retZ C hw dX6_readLine_79 hf
        · refine r_iconst (v := 0) C dX6_readLine_56 ?_
          exact r_retZ C hw dX6_readLine_57 hf
      · exact (w_X6_readLine_37 l hinj hZ C out c0 c1 i0 i1 N) S31 H locs ls hf hw (lv_sub hl [0] rfl)
  · refine r_iconst (v := 0) C dX6_readLine_7 ?_
    exact r_retZ C hw dX6_readLine_8 hf
def f_X10_takeTrace (N : Nat) (S : S2) : Option (Int × S2) := bV (f_X0_copyFrom N S 4 54) fun S8 => bV (f_X3_copyFrom N S8 20 70) fun S19 => bV (f_X5_find N S19 6 4) fun S30 => bV (f_X2_forget N S30 25) fun S37 => bV (f_X4_forget N S37 27) fun S44 => uI S44 48 1 0 fun S52 => bV (f_X4_forget N S52 50) fun S59 => uI S59 2 1 0 fun S67 => gI S67 4 1 fun v74 => rI v74 S67
abbrev rmX10_takeTrace : Room := { frames := 4, cells := 0, slots := 0, locals := 93 }
theorem hd_X10_takeTrace : yX10_takeTrace.cls ≠ "java/lang/invoke/MethodHandle" ∧ yX10_takeTrace.cls ≠ "java/lang/invoke/VarHandle" ∧ (parseMethodDescriptor yX10_takeTrace.desc).map (fun d => d.parameters.length) = some 0 := by decide +kernel
set_option maxRecDepth 100000 in
set_option maxHeartbeats 4000000 in
theorem c_X10_takeTrace (l : Launch) (X : XT) (hinj : XInj X nC) (hZ : ZOK (Zc X)) (N : Nat) (S : S2) (out : Int × S2) (hf : f_X10_takeTrace N S = some out) : MI l X shC nC (Zc X) yX10_takeTrace cX10_takeTrace 1 (some .int) rmX10_takeTrace [.ref (X.2.2 0)] S out := by
  refine met_I (own := RX10) (by decide) rfl hinj hZ (Nat.le_of_ble_eq_true rfl) (fun p e s m args below meth c C ls H locs hw hl => ?_)
  unfold f_X10_takeTrace at hf
  have hl : lv_has ls 1 [(0, .ref (X.2.2 0))] := hl
  refine lv_aload_n C.1.1 C.1.2.1 dX10_takeTrace_0 rfl (lv_at hl 0 rfl) ?_
  refine r_getR (k := 2) C hw shC_0 ltC_0 cO10 rfl (by decide) tw2_48 rfl dX10_takeTrace_1 ?_
  refine lv_aload_n C.1.1 C.1.2.1 dX10_takeTrace_4 rfl (lv_at hl 0 rfl) ?_
  refine r_getR (k := 13) C hw shC_0 ltC_0 cO10 rfl (by decide) tw2_59 rfl dX10_takeTrace_5 ?_
  refine r_callV (As := [.ref (X.2.2 54)]) (rest := []) (rm := rmX0_copyFrom) C hw (is0_s is0_at4) (is0_l is0_at4) cO0 tw3_50 tw3_51 tw3_52 tw1_4 tw3_53 hd_X0_copyFrom rfl ⟨⟨rfl, rfl⟩, Nat.le_of_ble_eq_true rfl, Nat.le_of_ble_eq_true rfl⟩ hl.1 rfl (Nat.le_of_ble_eq_true rfl) dX10_takeTrace_8 hf (fun o ho => c_X0_copyFrom l X hinj hZ N S 4 54 is0_at4 is0_at54 o ho) (fun S8 H locs hf hw => ?_)
  refine lv_aload_n C.1.1 C.1.2.1 dX10_takeTrace_11 rfl (lv_at hl 0 rfl) ?_
  refine r_getR (k := 4) C hw shC_0 ltC_0 cO10 rfl (by decide) tw2_50 rfl dX10_takeTrace_12 ?_
  refine lv_aload_n C.1.1 C.1.2.1 dX10_takeTrace_15 rfl (lv_at hl 0 rfl) ?_
  refine r_getR (k := 15) C hw shC_0 ltC_0 cO10 rfl (by decide) tw2_61 rfl dX10_takeTrace_16 ?_
  refine r_callV (As := [.ref (X.2.2 70)]) (rest := []) (rm := rmX3_copyFrom) C hw (is3_s is3_at20) (is3_l is3_at20) cO3 tw3_57 tw3_58 tw3_59 tw1_6 tw3_60 hd_X3_copyFrom rfl ⟨⟨rfl, rfl⟩, Nat.le_of_ble_eq_true rfl, Nat.le_of_ble_eq_true rfl⟩ hl.1 rfl (Nat.le_of_ble_eq_true rfl) dX10_takeTrace_19 hf (fun o ho => c_X3_copyFrom l X hinj hZ N S8 20 70 is3_at20 is3_at70 o ho) (fun S19 H locs hf hw => ?_)
  refine lv_aload_n C.1.1 C.1.2.1 dX10_takeTrace_22 rfl (lv_at hl 0 rfl) ?_
  refine r_getR (k := 3) C hw shC_0 ltC_0 cO10 rfl (by decide) tw2_49 rfl dX10_takeTrace_23 ?_
  refine lv_aload_n C.1.1 C.1.2.1 dX10_takeTrace_26 rfl (lv_at hl 0 rfl) ?_
  refine r_getR (k := 2) C hw shC_0 ltC_0 cO10 rfl (by decide) tw2_48 rfl dX10_takeTrace_27 ?_
  refine r_callV (As := [.ref (X.2.2 4)]) (rest := []) (rm := rmX5_find) C hw (is5_s is5_at6) (is5_l is5_at6) cO5 tw3_62 tw3_63 tw3_64 tw1_5 tw3_65 hd_X5_find rfl ⟨⟨rfl, rfl⟩, Nat.le_of_ble_eq_true rfl, Nat.le_of_ble_eq_true rfl⟩ hl.1 rfl (Nat.le_of_ble_eq_true rfl) dX10_takeTrace_30 hf (fun o ho => c_X5_find l X hinj hZ N S19 6 4 is5_at6 is0_at4 o ho) (fun S30 H locs hf hw => ?_)
  refine lv_aload_n C.1.1 C.1.2.1 dX10_takeTrace_33 rfl (lv_at hl 0 rfl) ?_
  refine r_getR (k := 5) C hw shC_0 ltC_0 cO10 rfl (by decide) tw2_51 rfl dX10_takeTrace_34 ?_
  refine r_callV (As := []) (rest := []) (rm := rmX2_forget) C hw (is2_s is2_at25) (is2_l is2_at25) cO2 tw3_112 tw3_113 tw3_114 tw1_7 tw3_115 hd_X2_forget rfl ⟨⟨rfl, rfl⟩, Nat.le_of_ble_eq_true rfl, Nat.le_of_ble_eq_true rfl⟩ hl.1 rfl (Nat.le_of_ble_eq_true rfl) dX10_takeTrace_37 hf (fun o ho => c_X2_forget l X hinj hZ N S30 25 is2_at25 o ho) (fun S37 H locs hf hw => ?_)
  refine lv_aload_n C.1.1 C.1.2.1 dX10_takeTrace_40 rfl (lv_at hl 0 rfl) ?_
  refine r_getR (k := 6) C hw shC_0 ltC_0 cO10 rfl (by decide) tw2_52 rfl dX10_takeTrace_41 ?_
  refine r_callV (As := []) (rest := []) (rm := rmX4_forget) C hw (is4_s is4_at27) (is4_l is4_at27) cO4 tw3_116 tw3_117 tw3_118 tw1_8 tw3_119 hd_X4_forget rfl ⟨⟨rfl, rfl⟩, Nat.le_of_ble_eq_true rfl, Nat.le_of_ble_eq_true rfl⟩ hl.1 rfl (Nat.le_of_ble_eq_true rfl) dX10_takeTrace_44 hf (fun o ho => c_X4_forget l X hinj hZ N S37 27 is4_at27 o ho) (fun S44 H locs hf hw => ?_)
  refine lv_aload_n C.1.1 C.1.2.1 dX10_takeTrace_47 rfl (lv_at hl 0 rfl) ?_
  refine r_getR (k := 11) C hw shC_0 ltC_0 cO10 rfl (by decide) tw2_57 rfl dX10_takeTrace_48 ?_
  refine r_iconst (v := 0) C dX10_takeTrace_51 ?_
  refine r_putI (k := 1) C hw (is0_s is0_at48) (is0_l is0_at48) cO0 rfl (by decide) tw1_92 rfl rfl rfl dX10_takeTrace_52 hf (fun S52 H locs hf hw => ?_)
  refine lv_aload_n C.1.1 C.1.2.1 dX10_takeTrace_55 rfl (lv_at hl 0 rfl) ?_
  refine r_getR (k := 12) C hw shC_0 ltC_0 cO10 rfl (by decide) tw2_58 rfl dX10_takeTrace_56 ?_
  refine r_callV (As := []) (rest := []) (rm := rmX4_forget) C hw (is4_s is4_at50) (is4_l is4_at50) cO4 tw3_116 tw3_117 tw3_118 tw1_8 tw3_119 hd_X4_forget rfl ⟨⟨rfl, rfl⟩, Nat.le_of_ble_eq_true rfl, Nat.le_of_ble_eq_true rfl⟩ hl.1 rfl (Nat.le_of_ble_eq_true rfl) dX10_takeTrace_59 hf (fun o ho => c_X4_forget l X hinj hZ N S52 50 is4_at50 o ho) (fun S59 H locs hf hw => ?_)
  refine lv_aload_n C.1.1 C.1.2.1 dX10_takeTrace_62 rfl (lv_at hl 0 rfl) ?_
  refine r_getR (k := 1) C hw shC_0 ltC_0 cO10 rfl (by decide) tw2_47 rfl dX10_takeTrace_63 ?_
  refine r_iconst (v := 0) C dX10_takeTrace_66 ?_
  refine r_putI (k := 1) C hw (is9_s is9_at2) (is9_l is9_at2) cO9 rfl (by decide) tw1_45 rfl rfl rfl dX10_takeTrace_67 hf (fun S67 H locs hf hw => ?_)
  refine lv_aload_n C.1.1 C.1.2.1 dX10_takeTrace_70 rfl (lv_at hl 0 rfl) ?_
  refine r_getR (k := 2) C hw shC_0 ltC_0 cO10 rfl (by decide) tw2_48 rfl dX10_takeTrace_71 ?_
  refine r_getI (k := 1) C hw (is0_s is0_at4) (is0_l is0_at4) cO0 rfl (by decide) tw1_92 rfl dX10_takeTrace_74 hf (fun v74 hf => ?_)
  exact r_retI C hw dX10_takeTrace_77 hf
def f_X10_act_63 (N : Nat) (S : S2) : Option (Int × S2) := gI S 6 1 fun v67 => rI v67 S
def f_X10_act (N : Nat) (S : S2) (a1 : Int) (a2 : Int) (a3 : Int) : Option (Int × S2) := bV (f_X2_keep N S 25 4) fun S8 => bI (f_X0_undergo N S8 4 a1 a2 a3 6) fun v22 S22 => bV (f_X5_find N S22 6 4) fun S35 => gI S35 6 1 fun v48 => bV (f_X4_add N S35 27 a1 a2 v48) fun S51 => cI a1 0 (if a1 = 0 then (f_X10_act_63 N) S51 else cI a1 1 (if a1 = 1 then (f_X10_act_63 N) S51 else rI v22 S51))
abbrev rmX10_act : Room := { frames := 4, cells := 0, slots := 0, locals := 100 }
theorem hd_X10_act : yX10_act.cls ≠ "java/lang/invoke/MethodHandle" ∧ yX10_act.cls ≠ "java/lang/invoke/VarHandle" ∧ (parseMethodDescriptor yX10_act.desc).map (fun d => d.parameters.length) = some 3 := by decide +kernel
set_option maxRecDepth 100000 in
set_option maxHeartbeats 4000000 in
theorem w_X10_act_63 {p : Program} (l : Launch) {e : Env} {s : State} {m : MethodId} {args : Array Value} {below : List Frame} {meth : Method} {c : Code} {X : XT} (hinj : XInj X nC) (hZ : ZOK (Zc X)) (C : CX p s m args meth c cX10_act 5 RX10 (some .int) X nC (Zc X)) (out : Int × S2) : ∀ (N : Nat), ∀ (S : S2) (H : Heap) (locs : List Loc) (ls : Array Slot), f_X10_act_63 N S = some out → WH X shC nC s S H locs → lv_has ls 5 [(0, .ref (X.2.2 0))] → W p l e rmX10_act s m args below meth c H locs 0 0 (QI X shC nC s args below out) (F0 m 63 ls []) := by
  intro N S H locs ls hf hw hl
  unfold f_X10_act_63 at hf
  refine lv_aload_n C.1.1 C.1.2.1 dX10_act_63 rfl (lv_at hl 0 rfl) ?_
  refine r_getR (k := 3) C hw shC_0 ltC_0 cO10 rfl (by decide) tw2_49 rfl dX10_act_64 ?_
  refine r_getI (k := 1) C hw (is5_s is5_at6) (is5_l is5_at6) cO5 rfl (by decide) tw1_115 rfl dX10_act_67 hf (fun v67 hf => ?_)
  refine lv_goto (tgt := 75) C.1.1 C.1.2.1 dX10_act_70 (by decide) ?_
  exact r_retI C hw dX10_act_75 hf
set_option maxRecDepth 100000 in
set_option maxHeartbeats 4000000 in
theorem c_X10_act (l : Launch) (X : XT) (hinj : XInj X nC) (hZ : ZOK (Zc X)) (N : Nat) (S : S2) (a1 : Int) (a2 : Int) (a3 : Int) (out : Int × S2) (hf : f_X10_act N S a1 a2 a3 = some out) : MI l X shC nC (Zc X) yX10_act cX10_act 5 (some .int) rmX10_act [.ref (X.2.2 0), .int (iz a1), .int (iz a2), .int (iz a3)] S out := by
  refine met_I (own := RX10) (by decide) rfl hinj hZ (Nat.le_of_ble_eq_true rfl) (fun p e s m args below meth c C ls H locs hw hl => ?_)
  unfold f_X10_act at hf
  have hl : lv_has ls 5 [(0, .ref (X.2.2 0)), (1, .int (iz a1)), (2, .int (iz a2)), (3, .int (iz a3))] := hl
  refine lv_aload_n C.1.1 C.1.2.1 dX10_act_0 rfl (lv_at hl 0 rfl) ?_
  refine r_getR (k := 5) C hw shC_0 ltC_0 cO10 rfl (by decide) tw2_51 rfl dX10_act_1 ?_
  refine lv_aload_n C.1.1 C.1.2.1 dX10_act_4 rfl (lv_at hl 0 rfl) ?_
  refine r_getR (k := 2) C hw shC_0 ltC_0 cO10 rfl (by decide) tw2_48 rfl dX10_act_5 ?_
  refine r_callV (As := [.ref (X.2.2 4)]) (rest := []) (rm := rmX2_keep) C hw (is2_s is2_at25) (is2_l is2_at25) cO2 tw4_6 tw4_7 tw4_8 tw1_7 tw4_9 hd_X2_keep rfl ⟨⟨rfl, rfl⟩, Nat.le_of_ble_eq_true rfl, Nat.le_of_ble_eq_true rfl⟩ hl.1 rfl (Nat.le_of_ble_eq_true rfl) dX10_act_8 hf (fun o ho => c_X2_keep l X hinj hZ N S 25 4 is2_at25 is0_at4 o ho) (fun S8 H locs hf hw => ?_)
  refine lv_aload_n C.1.1 C.1.2.1 dX10_act_11 rfl (lv_at hl 0 rfl) ?_
  refine r_getR (k := 2) C hw shC_0 ltC_0 cO10 rfl (by decide) tw2_48 rfl dX10_act_12 ?_
  refine lv_iload_n C.1.1 C.1.2.1 dX10_act_15 rfl (lv_at hl 1 rfl) ?_
  refine lv_iload_n C.1.1 C.1.2.1 dX10_act_16 rfl (lv_at hl 2 rfl) ?_
  refine lv_iload_n C.1.1 C.1.2.1 dX10_act_17 rfl (lv_at hl 3 rfl) ?_
  refine lv_aload_n C.1.1 C.1.2.1 dX10_act_18 rfl (lv_at hl 0 rfl) ?_
  refine r_getR (k := 3) C hw shC_0 ltC_0 cO10 rfl (by decide) tw2_49 rfl dX10_act_19 ?_
  refine r_callI (As := [.int (iz a1), .int (iz a2), .int (iz a3), .ref (X.2.2 6)]) (rest := []) (rm := rmX0_undergo) C hw (is0_s is0_at4) (is0_l is0_at4) cO0 tw4_12 tw4_13 tw4_14 tw1_4 tw4_15 hd_X0_undergo rfl ⟨⟨rfl, rfl⟩, Nat.le_of_ble_eq_true rfl, Nat.le_of_ble_eq_true rfl⟩ hl.1 rfl (Nat.le_of_ble_eq_true rfl) dX10_act_22 hf (fun o ho => c_X0_undergo l X hinj hZ N S8 4 a1 a2 a3 6 is0_at4 is5_at6 o ho) (fun v22 S22 H locs hf hw => ?_)
  refine lv_istore (lv' := [(4, .int (iz v22)), (0, .ref (X.2.2 0)), (1, .int (iz a1)), (2, .int (iz a2)), (3, .int (iz a3))]) C.1.1 C.1.2.1 dX10_act_25 hl (by decide) rfl (fun ls hl => ?_)
  refine lv_aload_n C.1.1 C.1.2.1 dX10_act_27 rfl (lv_at hl 1 rfl) ?_
  refine r_getR (k := 3) C hw shC_0 ltC_0 cO10 rfl (by decide) tw2_49 rfl dX10_act_28 ?_
  refine lv_aload_n C.1.1 C.1.2.1 dX10_act_31 rfl (lv_at hl 1 rfl) ?_
  refine r_getR (k := 2) C hw shC_0 ltC_0 cO10 rfl (by decide) tw2_48 rfl dX10_act_32 ?_
  refine r_callV (As := [.ref (X.2.2 4)]) (rest := []) (rm := rmX5_find) C hw (is5_s is5_at6) (is5_l is5_at6) cO5 tw3_62 tw3_63 tw3_64 tw1_5 tw3_65 hd_X5_find rfl ⟨⟨rfl, rfl⟩, Nat.le_of_ble_eq_true rfl, Nat.le_of_ble_eq_true rfl⟩ hl.1 rfl (Nat.le_of_ble_eq_true rfl) dX10_act_35 hf (fun o ho => c_X5_find l X hinj hZ N S22 6 4 is5_at6 is0_at4 o ho) (fun S35 H locs hf hw => ?_)
  refine lv_aload_n C.1.1 C.1.2.1 dX10_act_38 rfl (lv_at hl 1 rfl) ?_
  refine r_getR (k := 6) C hw shC_0 ltC_0 cO10 rfl (by decide) tw2_52 rfl dX10_act_39 ?_
  refine lv_iload_n C.1.1 C.1.2.1 dX10_act_42 rfl (lv_at hl 2 rfl) ?_
  refine lv_iload_n C.1.1 C.1.2.1 dX10_act_43 rfl (lv_at hl 3 rfl) ?_
  refine lv_aload_n C.1.1 C.1.2.1 dX10_act_44 rfl (lv_at hl 1 rfl) ?_
  refine r_getR (k := 3) C hw shC_0 ltC_0 cO10 rfl (by decide) tw2_49 rfl dX10_act_45 ?_
  refine r_getI (k := 1) C hw (is5_s is5_at6) (is5_l is5_at6) cO5 rfl (by decide) tw1_115 rfl dX10_act_48 hf (fun v48 hf => ?_)
  refine r_callV (As := [.int (iz a1), .int (iz a2), .int (iz v48)]) (rest := []) (rm := rmX4_add) C hw (is4_s is4_at27) (is4_l is4_at27) cO4 tw4_66 tw4_67 tw4_68 tw1_8 tw4_69 hd_X4_add rfl ⟨⟨rfl, rfl⟩, Nat.le_of_ble_eq_true rfl, Nat.le_of_ble_eq_true rfl⟩ hl.1 rfl (Nat.le_of_ble_eq_true rfl) dX10_act_51 hf (fun o ho => c_X4_add l X hinj hZ N S35 27 a1 a2 v48 is4_at27 o ho) (fun S51 H locs hf hw => ?_)
  refine lv_iload_n C.1.1 C.1.2.1 dX10_act_54 rfl (lv_at hl 2 rfl) ?_
  refine r_if_eq C (tgt := 63) dX10_act_55 (by decide) hf (fun hf => ?_) (fun hf => ?_)
  · exact (w_X10_act_63 l hinj hZ C out N) S51 H locs ls hf hw (lv_sub hl [1] rfl)
  · refine lv_iload_n C.1.1 C.1.2.1 dX10_act_58 rfl (lv_at hl 2 rfl) ?_
    refine r_iconst (v := 1) C dX10_act_59 ?_
    refine r_icmp_ne C (tgt := 73) dX10_act_60 (by decide) hf (fun hf => ?_) (fun hf => ?_)
    · refine lv_iload C.1.1 C.1.2.1 dX10_act_73 (lv_at hl 0 rfl) ?_
      exact r_retI C hw dX10_act_75 hf
    · exact (w_X10_act_63 l hinj hZ C out N) S51 H locs ls hf hw (lv_sub hl [1] rfl)
def f_X10_drawnAct (N : Nat) (S : S2) : Option (S2) := bI (f_X1_next N S 79 8) fun v6 S6 => cI v6 2 (if 2 < v6 then cI v6 5 (if 5 < v6 then cI v6 6 (if v6 = 6 then bI (f_X1_next N S6 79 200) fun v83 S83 => bI (f_X10_act N S83 8 v83 0) fun v87 S87 => rV S87 else bI (f_X1_next N S6 79 100) fun v100 S100 => bI (f_X1_next N S100 79 9) fun v114 S114 => bI (f_X10_act N S114 6 v100 (v114 + 1)) fun v119 S119 => rV S119) else gI S6 4 1 fun v39 => bI (f_X1_next N S6 79 v39) fun v42 S42 => bI (f_X1_next N S42 79 1000) fun v57 S57 => bI (f_X10_act N S57 7 v42 v57) fun v60 S60 => rV S60) else bI (f_X10_act N S6 v6 0 0) fun v19 S19 => rV S19)
abbrev rmX10_drawnAct : Room := { frames := 5, cells := 0, slots := 0, locals := 124 }
theorem hd_X10_drawnAct : yX10_drawnAct.cls ≠ "java/lang/invoke/MethodHandle" ∧ yX10_drawnAct.cls ≠ "java/lang/invoke/VarHandle" ∧ (parseMethodDescriptor yX10_drawnAct.desc).map (fun d => d.parameters.length) = some 0 := by decide +kernel
set_option maxRecDepth 100000 in
set_option maxHeartbeats 4000000 in
theorem c_X10_drawnAct (l : Launch) (X : XT) (hinj : XInj X nC) (hZ : ZOK (Zc X)) (N : Nat) (S : S2) (out : S2) (hf : f_X10_drawnAct N S = some out) : MV l X shC nC (Zc X) yX10_drawnAct cX10_drawnAct 3 none rmX10_drawnAct [.ref (X.2.2 0)] S out := by
  refine met_V (own := RX10) (by decide) rfl hinj hZ (Nat.le_of_ble_eq_true rfl) (fun p e s m args below meth c C ls H locs hw hl => ?_)
  unfold f_X10_drawnAct at hf
  have hl : lv_has ls 3 [(0, .ref (X.2.2 0))] := hl
  refine lv_aload_n C.1.1 C.1.2.1 dX10_drawnAct_0 rfl (lv_at hl 0 rfl) ?_
  refine r_getR (k := 17) C hw shC_0 ltC_0 cO10 rfl (by decide) tw2_63 rfl dX10_drawnAct_1 ?_
  refine r_bipush (v := 8) C dX10_drawnAct_4 (by decide) ?_
  refine r_callI (As := [.int (iz 8)]) (rest := []) (rm := rmX1_next) C hw (is1_s is1_at79) (is1_l is1_at79) cO1 tw4_115 tw4_116 tw4_117 tw1_10 tw4_118 hd_X1_next rfl ⟨⟨rfl, rfl⟩, Nat.le_of_ble_eq_true rfl, Nat.le_of_ble_eq_true rfl⟩ hl.1 rfl (Nat.le_of_ble_eq_true rfl) dX10_drawnAct_6 hf (fun o ho => c_X1_next l X hinj hZ N S 79 8 is1_at79 o ho) (fun v6 S6 H locs hf hw => ?_)
  refine lv_istore_n (lv' := [(1, .int (iz v6)), (0, .ref (X.2.2 0))]) C.1.1 C.1.2.1 dX10_drawnAct_9 rfl hl (by decide) rfl (fun ls hl => ?_)
  refine lv_iload_n C.1.1 C.1.2.1 dX10_drawnAct_10 rfl (lv_at hl 0 rfl) ?_
  refine r_iconst (v := 2) C dX10_drawnAct_11 ?_
  refine r_icmp_gt C (tgt := 26) dX10_drawnAct_12 (by decide) hf (fun hf => ?_) (fun hf => ?_)
  · refine lv_iload_n C.1.1 C.1.2.1 dX10_drawnAct_26 rfl (lv_at hl 0 rfl) ?_
    refine r_iconst (v := 5) C dX10_drawnAct_27 ?_
    refine r_icmp_gt C (tgt := 67) dX10_drawnAct_28 (by decide) hf (fun hf => ?_) (fun hf => ?_)
    · refine lv_iload_n C.1.1 C.1.2.1 dX10_drawnAct_67 rfl (lv_at hl 0 rfl) ?_
      refine r_bipush (v := 6) C dX10_drawnAct_68 (by decide) ?_
      refine r_icmp_ne C (tgt := 94) dX10_drawnAct_70 (by decide) hf (fun hf => ?_) (fun hf => ?_)
      · refine lv_aload_n C.1.1 C.1.2.1 dX10_drawnAct_94 rfl (lv_at hl 1 rfl) ?_
        refine r_getR (k := 17) C hw shC_0 ltC_0 cO10 rfl (by decide) tw2_63 rfl dX10_drawnAct_95 ?_
        refine r_bipush (v := 100) C dX10_drawnAct_98 (by decide) ?_
        refine r_callI (As := [.int (iz 100)]) (rest := []) (rm := rmX1_next) C hw (is1_s is1_at79) (is1_l is1_at79) cO1 tw4_115 tw4_116 tw4_117 tw1_10 tw4_118 hd_X1_next rfl ⟨⟨rfl, rfl⟩, Nat.le_of_ble_eq_true rfl, Nat.le_of_ble_eq_true rfl⟩ hl.1 rfl (Nat.le_of_ble_eq_true rfl) dX10_drawnAct_100 hf (fun o ho => c_X1_next l X hinj hZ N S6 79 100 is1_at79 o ho) (fun v100 S100 H locs hf hw => ?_)
        refine lv_istore_n (lv' := [(2, .int (iz v100)), (1, .int (iz v6)), (0, .ref (X.2.2 0))]) C.1.1 C.1.2.1 dX10_drawnAct_103 rfl hl (by decide) rfl (fun ls hl => ?_)
        refine lv_aload_n C.1.1 C.1.2.1 dX10_drawnAct_104 rfl (lv_at hl 2 rfl) ?_
        refine r_bipush (v := 6) C dX10_drawnAct_105 (by decide) ?_
        refine lv_iload_n C.1.1 C.1.2.1 dX10_drawnAct_107 rfl (lv_at hl 0 rfl) ?_
        refine lv_aload_n C.1.1 C.1.2.1 dX10_drawnAct_108 rfl (lv_at hl 2 rfl) ?_
        refine r_getR (k := 17) C hw shC_0 ltC_0 cO10 rfl (by decide) tw2_63 rfl dX10_drawnAct_109 ?_
        refine r_bipush (v := 9) C dX10_drawnAct_112 (by decide) ?_
        refine r_callI (As := [.int (iz 9)]) (rest := [.int (iz v100), .int (iz 6), .ref (X.2.2 0)]) (rm := rmX1_next) C hw (is1_s is1_at79) (is1_l is1_at79) cO1 tw4_115 tw4_116 tw4_117 tw1_10 tw4_118 hd_X1_next rfl ⟨⟨rfl, rfl⟩, Nat.le_of_ble_eq_true rfl, Nat.le_of_ble_eq_true rfl⟩ hl.1 rfl (Nat.le_of_ble_eq_true rfl) dX10_drawnAct_114 hf (fun o ho => c_X1_next l X hinj hZ N S100 79 9 is1_at79 o ho) (fun v114 S114 H locs hf hw => ?_)
        refine r_iconst (v := 1) C dX10_drawnAct_117 ?_
        refine r_iadd C dX10_drawnAct_118 ?_
        refine r_callI (As := [.int (iz 6), .int (iz v100), .int (iz (v114 + 1))]) (rest := []) (rm := rmX10_act) C hw shC_0 ltC_0 cO10 tw4_2 tw4_4 tp_27 tw1_1 tw4_5 hd_X10_act rfl ⟨⟨rfl, rfl⟩, Nat.le_of_ble_eq_true rfl, Nat.le_of_ble_eq_true rfl⟩ hl.1 rfl (Nat.le_of_ble_eq_true rfl) dX10_drawnAct_119 hf (fun o ho => c_X10_act l X hinj hZ N S114 6 v100 (v114 + 1) o ho) (fun v119 S119 H locs hf hw => ?_)
        refine lv_pop C.1.1 C.1.2.1 dX10_drawnAct_122 rfl ?_
        exact r_retV C hw dX10_drawnAct_123 hf
      · refine lv_aload_n C.1.1 C.1.2.1 dX10_drawnAct_73 rfl (lv_at hl 1 rfl) ?_
        refine r_bipush (v := 8) C dX10_drawnAct_74 (by decide) ?_
        refine lv_aload_n C.1.1 C.1.2.1 dX10_drawnAct_76 rfl (lv_at hl 1 rfl) ?_
        refine r_getR (k := 17) C hw shC_0 ltC_0 cO10 rfl (by decide) tw2_63 rfl dX10_drawnAct_77 ?_
        refine r_sipush (v := 200) C dX10_drawnAct_80 (by decide) ?_
        refine r_callI (As := [.int (iz 200)]) (rest := [.int (iz 8), .ref (X.2.2 0)]) (rm := rmX1_next) C hw (is1_s is1_at79) (is1_l is1_at79) cO1 tw4_115 tw4_116 tw4_117 tw1_10 tw4_118 hd_X1_next rfl ⟨⟨rfl, rfl⟩, Nat.le_of_ble_eq_true rfl, Nat.le_of_ble_eq_true rfl⟩ hl.1 rfl (Nat.le_of_ble_eq_true rfl) dX10_drawnAct_83 hf (fun o ho => c_X1_next l X hinj hZ N S6 79 200 is1_at79 o ho) (fun v83 S83 H locs hf hw => ?_)
        refine r_iconst (v := 0) C dX10_drawnAct_86 ?_
        refine r_callI (As := [.int (iz 8), .int (iz v83), .int (iz 0)]) (rest := []) (rm := rmX10_act) C hw shC_0 ltC_0 cO10 tw4_2 tw4_4 tp_27 tw1_1 tw4_5 hd_X10_act rfl ⟨⟨rfl, rfl⟩, Nat.le_of_ble_eq_true rfl, Nat.le_of_ble_eq_true rfl⟩ hl.1 rfl (Nat.le_of_ble_eq_true rfl) dX10_drawnAct_87 hf (fun o ho => c_X10_act l X hinj hZ N S83 8 v83 0 o ho) (fun v87 S87 H locs hf hw => ?_)
        refine lv_pop C.1.1 C.1.2.1 dX10_drawnAct_90 rfl ?_
        refine lv_goto (tgt := 123) C.1.1 C.1.2.1 dX10_drawnAct_91 (by decide) ?_
        exact r_retV C hw dX10_drawnAct_123 hf
    · refine lv_aload_n C.1.1 C.1.2.1 dX10_drawnAct_31 rfl (lv_at hl 1 rfl) ?_
      refine r_getR (k := 17) C hw shC_0 ltC_0 cO10 rfl (by decide) tw2_63 rfl dX10_drawnAct_32 ?_
      refine lv_aload_n C.1.1 C.1.2.1 dX10_drawnAct_35 rfl (lv_at hl 1 rfl) ?_
      refine r_getR (k := 2) C hw shC_0 ltC_0 cO10 rfl (by decide) tw2_48 rfl dX10_drawnAct_36 ?_
      refine r_getI (k := 1) C hw (is0_s is0_at4) (is0_l is0_at4) cO0 rfl (by decide) tw1_92 rfl dX10_drawnAct_39 hf (fun v39 hf => ?_)
      refine r_callI (As := [.int (iz v39)]) (rest := []) (rm := rmX1_next) C hw (is1_s is1_at79) (is1_l is1_at79) cO1 tw4_115 tw4_116 tw4_117 tw1_10 tw4_118 hd_X1_next rfl ⟨⟨rfl, rfl⟩, Nat.le_of_ble_eq_true rfl, Nat.le_of_ble_eq_true rfl⟩ hl.1 rfl (Nat.le_of_ble_eq_true rfl) dX10_drawnAct_42 hf (fun o ho => c_X1_next l X hinj hZ N S6 79 v39 is1_at79 o ho) (fun v42 S42 H locs hf hw => ?_)
      refine lv_istore_n (lv' := [(2, .int (iz v42)), (1, .int (iz v6)), (0, .ref (X.2.2 0))]) C.1.1 C.1.2.1 dX10_drawnAct_45 rfl hl (by decide) rfl (fun ls hl => ?_)
      refine lv_aload_n C.1.1 C.1.2.1 dX10_drawnAct_46 rfl (lv_at hl 2 rfl) ?_
      refine r_bipush (v := 7) C dX10_drawnAct_47 (by decide) ?_
      refine lv_iload_n C.1.1 C.1.2.1 dX10_drawnAct_49 rfl (lv_at hl 0 rfl) ?_
      refine lv_aload_n C.1.1 C.1.2.1 dX10_drawnAct_50 rfl (lv_at hl 2 rfl) ?_
      refine r_getR (k := 17) C hw shC_0 ltC_0 cO10 rfl (by decide) tw2_63 rfl dX10_drawnAct_51 ?_
      refine r_sipush (v := 1000) C dX10_drawnAct_54 (by decide) ?_
      refine r_callI (As := [.int (iz 1000)]) (rest := [.int (iz v42), .int (iz 7), .ref (X.2.2 0)]) (rm := rmX1_next) C hw (is1_s is1_at79) (is1_l is1_at79) cO1 tw4_115 tw4_116 tw4_117 tw1_10 tw4_118 hd_X1_next rfl ⟨⟨rfl, rfl⟩, Nat.le_of_ble_eq_true rfl, Nat.le_of_ble_eq_true rfl⟩ hl.1 rfl (Nat.le_of_ble_eq_true rfl) dX10_drawnAct_57 hf (fun o ho => c_X1_next l X hinj hZ N S42 79 1000 is1_at79 o ho) (fun v57 S57 H locs hf hw => ?_)
      refine r_callI (As := [.int (iz 7), .int (iz v42), .int (iz v57)]) (rest := []) (rm := rmX10_act) C hw shC_0 ltC_0 cO10 tw4_2 tw4_4 tp_27 tw1_1 tw4_5 hd_X10_act rfl ⟨⟨rfl, rfl⟩, Nat.le_of_ble_eq_true rfl, Nat.le_of_ble_eq_true rfl⟩ hl.1 rfl (Nat.le_of_ble_eq_true rfl) dX10_drawnAct_60 hf (fun o ho => c_X10_act l X hinj hZ N S57 7 v42 v57 o ho) (fun v60 S60 H locs hf hw => ?_)
      refine lv_pop C.1.1 C.1.2.1 dX10_drawnAct_63 rfl ?_
      refine lv_goto (tgt := 123) C.1.1 C.1.2.1 dX10_drawnAct_64 (by decide) ?_
      exact r_retV C hw dX10_drawnAct_123 hf
  · refine lv_aload_n C.1.1 C.1.2.1 dX10_drawnAct_15 rfl (lv_at hl 1 rfl) ?_
    refine lv_iload_n C.1.1 C.1.2.1 dX10_drawnAct_16 rfl (lv_at hl 0 rfl) ?_
    refine r_iconst (v := 0) C dX10_drawnAct_17 ?_
    refine r_iconst (v := 0) C dX10_drawnAct_18 ?_
    refine r_callI (As := [.int (iz v6), .int (iz 0), .int (iz 0)]) (rest := []) (rm := rmX10_act) C hw shC_0 ltC_0 cO10 tw4_2 tw4_4 tp_27 tw1_1 tw4_5 hd_X10_act rfl ⟨⟨rfl, rfl⟩, Nat.le_of_ble_eq_true rfl, Nat.le_of_ble_eq_true rfl⟩ hl.1 rfl (Nat.le_of_ble_eq_true rfl) dX10_drawnAct_19 hf (fun o ho => c_X10_act l X hinj hZ N S6 v6 0 0 o ho) (fun v19 S19 H locs hf hw => ?_)
    refine lv_pop C.1.1 C.1.2.1 dX10_drawnAct_22 rfl ?_
    refine lv_goto (tgt := 123) C.1.1 C.1.2.1 dX10_drawnAct_23 (by decide) ?_
    exact r_retV C hw dX10_drawnAct_123 hf
def f_X10_undo (N : Nat) (S : S2) : Option (Int × S2) := gI S 25 0 fun v4 => cI v4 0 (if v4 = 0 then rI (-1) S else bV (f_X2_takeBack N S 25 4) fun S20 => bV (f_X4_dropLatest N S20 27) fun S27 => bV (f_X5_find N S27 6 4) fun S38 => gI S38 25 0 fun v45 => rI v45 S38)
abbrev rmX10_undo : Room := { frames := 4, cells := 0, slots := 0, locals := 93 }
theorem hd_X10_undo : yX10_undo.cls ≠ "java/lang/invoke/MethodHandle" ∧ yX10_undo.cls ≠ "java/lang/invoke/VarHandle" ∧ (parseMethodDescriptor yX10_undo.desc).map (fun d => d.parameters.length) = some 0 := by decide +kernel
set_option maxRecDepth 100000 in
set_option maxHeartbeats 4000000 in
theorem c_X10_undo (l : Launch) (X : XT) (hinj : XInj X nC) (hZ : ZOK (Zc X)) (N : Nat) (S : S2) (out : Int × S2) (hf : f_X10_undo N S = some out) : MI l X shC nC (Zc X) yX10_undo cX10_undo 1 (some .int) rmX10_undo [.ref (X.2.2 0)] S out := by
  refine met_I (own := RX10) (by decide) rfl hinj hZ (Nat.le_of_ble_eq_true rfl) (fun p e s m args below meth c C ls H locs hw hl => ?_)
  unfold f_X10_undo at hf
  have hl : lv_has ls 1 [(0, .ref (X.2.2 0))] := hl
  refine lv_aload_n C.1.1 C.1.2.1 dX10_undo_0 rfl (lv_at hl 0 rfl) ?_
  refine r_getR (k := 5) C hw shC_0 ltC_0 cO10 rfl (by decide) tw2_51 rfl dX10_undo_1 ?_
  refine r_getI (k := 0) C hw (is2_s is2_at25) (is2_l is2_at25) cO2 rfl (by decide) tw1_203 rfl dX10_undo_4 hf (fun v4 hf => ?_)
  refine r_if_ne C (tgt := 12) dX10_undo_7 (by decide) hf (fun hf => ?_) (fun hf => ?_)
  · refine lv_aload_n C.1.1 C.1.2.1 dX10_undo_12 rfl (lv_at hl 0 rfl) ?_
    refine r_getR (k := 5) C hw shC_0 ltC_0 cO10 rfl (by decide) tw2_51 rfl dX10_undo_13 ?_
    refine lv_aload_n C.1.1 C.1.2.1 dX10_undo_16 rfl (lv_at hl 0 rfl) ?_
    refine r_getR (k := 2) C hw shC_0 ltC_0 cO10 rfl (by decide) tw2_48 rfl dX10_undo_17 ?_
    refine r_callV (As := [.ref (X.2.2 4)]) (rest := []) (rm := rmX2_takeBack) C hw (is2_s is2_at25) (is2_l is2_at25) cO2 tw4_129 tw4_130 tw4_131 tw1_7 tw4_132 hd_X2_takeBack rfl ⟨⟨rfl, rfl⟩, Nat.le_of_ble_eq_true rfl, Nat.le_of_ble_eq_true rfl⟩ hl.1 rfl (Nat.le_of_ble_eq_true rfl) dX10_undo_20 hf (fun o ho => c_X2_takeBack l X hinj hZ N S 25 4 is2_at25 is0_at4 o ho) (fun S20 H locs hf hw => ?_)
    refine lv_aload_n C.1.1 C.1.2.1 dX10_undo_23 rfl (lv_at hl 0 rfl) ?_
    refine r_getR (k := 6) C hw shC_0 ltC_0 cO10 rfl (by decide) tw2_52 rfl dX10_undo_24 ?_
    refine r_callV (As := []) (rest := []) (rm := rmX4_dropLatest) C hw (is4_s is4_at27) (is4_l is4_at27) cO4 tw4_133 tw4_134 tw4_135 tw1_8 tw4_136 hd_X4_dropLatest rfl ⟨⟨rfl, rfl⟩, Nat.le_of_ble_eq_true rfl, Nat.le_of_ble_eq_true rfl⟩ hl.1 rfl (Nat.le_of_ble_eq_true rfl) dX10_undo_27 hf (fun o ho => c_X4_dropLatest l X hinj hZ N S20 27 is4_at27 o ho) (fun S27 H locs hf hw => ?_)
    refine lv_aload_n C.1.1 C.1.2.1 dX10_undo_30 rfl (lv_at hl 0 rfl) ?_
    refine r_getR (k := 3) C hw shC_0 ltC_0 cO10 rfl (by decide) tw2_49 rfl dX10_undo_31 ?_
    refine lv_aload_n C.1.1 C.1.2.1 dX10_undo_34 rfl (lv_at hl 0 rfl) ?_
    refine r_getR (k := 2) C hw shC_0 ltC_0 cO10 rfl (by decide) tw2_48 rfl dX10_undo_35 ?_
    refine r_callV (As := [.ref (X.2.2 4)]) (rest := []) (rm := rmX5_find) C hw (is5_s is5_at6) (is5_l is5_at6) cO5 tw3_62 tw3_63 tw3_64 tw1_5 tw3_65 hd_X5_find rfl ⟨⟨rfl, rfl⟩, Nat.le_of_ble_eq_true rfl, Nat.le_of_ble_eq_true rfl⟩ hl.1 rfl (Nat.le_of_ble_eq_true rfl) dX10_undo_38 hf (fun o ho => c_X5_find l X hinj hZ N S27 6 4 is5_at6 is0_at4 o ho) (fun S38 H locs hf hw => ?_)
    refine lv_aload_n C.1.1 C.1.2.1 dX10_undo_41 rfl (lv_at hl 0 rfl) ?_
    refine r_getR (k := 5) C hw shC_0 ltC_0 cO10 rfl (by decide) tw2_51 rfl dX10_undo_42 ?_
    refine r_getI (k := 0) C hw (is2_s is2_at25) (is2_l is2_at25) cO2 rfl (by decide) tw1_203 rfl dX10_undo_45 hf (fun v45 hf => ?_)
    exact r_retI C hw dX10_undo_48 hf
  · refine r_iconst (v := (-1)) C dX10_undo_10 ?_
    exact r_retI C hw dX10_undo_11 hf
def f_X10_unlike_98 (k45 : Int → Int → Int → S2 → Option (Int × S2)) (N : Nat) (x1 : Int) (x2 : Int) (x3 : Int) (x4 : Int) (y0 : Int) (S : S2) : Option (Int × S2) := abI (x4 - y0) fun v106 => k45 x1 (x2 + v106) (x3 + 1) S
def f_X10_unlike_73 (k45 : Int → Int → Int → S2 → Option (Int × S2)) (N : Nat) (x1 : Int) (x2 : Int) (x3 : Int) (y0 : Int) (S : S2) : Option (Int × S2) := gI S 56 0 fun v80 => cI x3 v80 (if v80 ≤ x3 then (f_X10_unlike_98 k45 N) x1 x2 x3 y0 0 S else bI (f_X5_persistenceOf N S 56 x3) fun v91 S91 => (f_X10_unlike_98 k45 N) x1 x2 x3 y0 v91 S91)
def f_X10_unlike_45 : Nat → Int → Int → Int → S2 → Option (Int × S2)
  | 0, _, _, _, _ => none
  | N + 1, x1, x2, x3, S => cI x3 x1 (if x1 ≤ x3 then rI x2 S else gI S 6 0 fun v55 => cI x3 v55 (if v55 ≤ x3 then (f_X10_unlike_73 (f_X10_unlike_45 N) N) x1 x2 x3 0 S else bI (f_X5_persistenceOf N S 6 x3) fun v66 S66 => (f_X10_unlike_73 (f_X10_unlike_45 N) N) x1 x2 x3 v66 S66))
def f_X10_unlike (N : Nat) (S : S2) : Option (Int × S2) := gI S 48 1 fun v4 => cI v4 0 (if v4 = 0 then rI (-1) S else bV (f_X5_find N S 56 48) fun S20 => gI S20 6 0 fun v27 => gI S20 56 0 fun v34 => mxI v27 v34 fun v37 => (f_X10_unlike_45 N) v37 0 0 S20)
abbrev rmX10_unlike : Room := { frames := 4, cells := 0, slots := 0, locals := 93 }
theorem hd_X10_unlike : yX10_unlike.cls ≠ "java/lang/invoke/MethodHandle" ∧ yX10_unlike.cls ≠ "java/lang/invoke/VarHandle" ∧ (parseMethodDescriptor yX10_unlike.desc).map (fun d => d.parameters.length) = some 0 := by decide +kernel
set_option maxRecDepth 100000 in
set_option maxHeartbeats 4000000 in
theorem w_X10_unlike_98 {p : Program} (l : Launch) {e : Env} {s : State} {m : MethodId} {args : Array Value} {below : List Frame} {meth : Method} {c : Code} {X : XT} (hinj : XInj X nC) (hZ : ZOK (Zc X)) (C : CX p s m args meth c cX10_unlike 6 RX10 (some .int) X nC (Zc X)) (out : Int × S2) (k45 : Int → Int → Int → S2 → Option (Int × S2)) (hk45 : ∀ (x1 : Int) (x2 : Int) (x3 : Int) (S : S2) (H : Heap) (locs : List Loc) (ls : Array Slot), k45 x1 x2 x3 S = some out → WH X shC nC s S H locs → lv_has ls 6 [(0, .ref (X.2.2 0)), (1, .int (iz x1)), (2, .int (iz x2)), (3, .int (iz x3))] → W p l e rmX10_unlike s m args below meth c H locs 0 0 (QI X shC nC s args below out) (F0 m 45 ls [])) : ∀ (N : Nat), ∀ (x1 : Int) (x2 : Int) (x3 : Int) (x4 : Int) (y0 : Int) (S : S2) (H : Heap) (locs : List Loc) (ls : Array Slot), f_X10_unlike_98 k45 N x1 x2 x3 x4 y0 S = some out → WH X shC nC s S H locs → lv_has ls 6 [(0, .ref (X.2.2 0)), (1, .int (iz x1)), (2, .int (iz x2)), (3, .int (iz x3)), (4, .int (iz x4))] → W p l e rmX10_unlike s m args below meth c H locs 0 0 (QI X shC nC s args below out) (F0 m 98 ls [.int (iz y0)]) := by
  intro N x1 x2 x3 x4 y0 S H locs ls hf hw hl
  unfold f_X10_unlike_98 at hf
  refine lv_istore (lv' := [(5, .int (iz y0)), (0, .ref (X.2.2 0)), (1, .int (iz x1)), (2, .int (iz x2)), (3, .int (iz x3)), (4, .int (iz x4))]) C.1.1 C.1.2.1 dX10_unlike_98 hl (by decide) rfl (fun ls hl => ?_)
  refine lv_iload_n C.1.1 C.1.2.1 dX10_unlike_100 rfl (lv_at hl 3 rfl) ?_
  refine lv_iload C.1.1 C.1.2.1 dX10_unlike_101 (lv_at hl 5 rfl) ?_
  refine lv_iload C.1.1 C.1.2.1 dX10_unlike_103 (lv_at hl 0 rfl) ?_
  refine r_isub C dX10_unlike_105 ?_
  refine r_abs C tw4_168 tw3_224 tw1_18 tw3_225 hl.1 (Nat.le_of_ble_eq_true rfl) (Nat.le_of_ble_eq_true rfl) dX10_unlike_106 hf (fun v106 hf => ?_)
  refine r_iadd C dX10_unlike_109 ?_
  refine lv_istore_n (lv' := [(2, .int (iz (x2 + v106))), (5, .int (iz y0)), (0, .ref (X.2.2 0)), (1, .int (iz x1)), (3, .int (iz x3)), (4, .int (iz x4))]) C.1.1 C.1.2.1 dX10_unlike_110 rfl hl (by decide) rfl (fun ls hl => ?_)
  refine lv_iinc (v := iz (x3 + 1)) (lv' := [(3, .int (iz (x3 + 1))), (2, .int (iz (x2 + v106))), (5, .int (iz y0)), (0, .ref (X.2.2 0)), (1, .int (iz x1)), (4, .int (iz x4))]) C.1.1 C.1.2.1 dX10_unlike_111 hl (k := 4) rfl (iz_add _ _) (by decide) rfl (fun ls hl => ?_)
  refine lv_goto (tgt := 45) C.1.1 C.1.2.1 dX10_unlike_114 (by decide) ?_
  exact hk45 x1 (x2 + v106) (x3 + 1) S H locs ls hf hw (lv_sub hl [3, 4, 1, 0] rfl)
set_option maxRecDepth 100000 in
set_option maxHeartbeats 4000000 in
theorem w_X10_unlike_73 {p : Program} (l : Launch) {e : Env} {s : State} {m : MethodId} {args : Array Value} {below : List Frame} {meth : Method} {c : Code} {X : XT} (hinj : XInj X nC) (hZ : ZOK (Zc X)) (C : CX p s m args meth c cX10_unlike 6 RX10 (some .int) X nC (Zc X)) (out : Int × S2) (k45 : Int → Int → Int → S2 → Option (Int × S2)) (hk45 : ∀ (x1 : Int) (x2 : Int) (x3 : Int) (S : S2) (H : Heap) (locs : List Loc) (ls : Array Slot), k45 x1 x2 x3 S = some out → WH X shC nC s S H locs → lv_has ls 6 [(0, .ref (X.2.2 0)), (1, .int (iz x1)), (2, .int (iz x2)), (3, .int (iz x3))] → W p l e rmX10_unlike s m args below meth c H locs 0 0 (QI X shC nC s args below out) (F0 m 45 ls [])) : ∀ (N : Nat), ∀ (x1 : Int) (x2 : Int) (x3 : Int) (y0 : Int) (S : S2) (H : Heap) (locs : List Loc) (ls : Array Slot), f_X10_unlike_73 k45 N x1 x2 x3 y0 S = some out → WH X shC nC s S H locs → lv_has ls 6 [(0, .ref (X.2.2 0)), (1, .int (iz x1)), (2, .int (iz x2)), (3, .int (iz x3))] → W p l e rmX10_unlike s m args below meth c H locs 0 0 (QI X shC nC s args below out) (F0 m 73 ls [.int (iz y0)]) := by
  intro N x1 x2 x3 y0 S H locs ls hf hw hl
  unfold f_X10_unlike_73 at hf
  refine lv_istore (lv' := [(4, .int (iz y0)), (0, .ref (X.2.2 0)), (1, .int (iz x1)), (2, .int (iz x2)), (3, .int (iz x3))]) C.1.1 C.1.2.1 dX10_unlike_73 hl (by decide) rfl (fun ls hl => ?_)
  refine lv_iload_n C.1.1 C.1.2.1 dX10_unlike_75 rfl (lv_at hl 4 rfl) ?_
  refine lv_aload_n C.1.1 C.1.2.1 dX10_unlike_76 rfl (lv_at hl 1 rfl) ?_
  refine r_getR (k := 14) C hw shC_0 ltC_0 cO10 rfl (by decide) tw2_60 rfl dX10_unlike_77 ?_
  refine r_getI (k := 0) C hw (is5_s is5_at56) (is5_l is5_at56) cO5 rfl (by decide) tw1_112 rfl dX10_unlike_80 hf (fun v80 hf => ?_)
  refine r_icmp_ge C (tgt := 97) dX10_unlike_83 (by decide) hf (fun hf => ?_) (fun hf => ?_)
  · refine r_iconst (v := 0) C dX10_unlike_97 ?_
    exact (w_X10_unlike_98 l hinj hZ C out k45 hk45 N) x1 x2 x3 y0 0 S H locs ls hf hw (lv_sub hl [1, 2, 3, 4, 0] rfl)
  · refine lv_aload_n C.1.1 C.1.2.1 dX10_unlike_86 rfl (lv_at hl 1 rfl) ?_
    refine r_getR (k := 14) C hw shC_0 ltC_0 cO10 rfl (by decide) tw2_60 rfl dX10_unlike_87 ?_
    refine lv_iload_n C.1.1 C.1.2.1 dX10_unlike_90 rfl (lv_at hl 4 rfl) ?_
    refine r_callI (As := [.int (iz x3)]) (rest := []) (rm := rmX5_persistenceOf) C hw (is5_s is5_at56) (is5_l is5_at56) cO5 tw4_154 tw3_101 tw3_102 tw1_5 tw3_103 hd_X5_persistenceOf rfl ⟨⟨rfl, rfl⟩, Nat.le_of_ble_eq_true rfl, Nat.le_of_ble_eq_true rfl⟩ hl.1 rfl (Nat.le_of_ble_eq_true rfl) dX10_unlike_91 hf (fun o ho => c_X5_persistenceOf l X hinj hZ N S 56 x3 is5_at56 o ho) (fun v91 S91 H locs hf hw => ?_)
    refine lv_goto (tgt := 98) C.1.1 C.1.2.1 dX10_unlike_94 (by decide) ?_
    exact (w_X10_unlike_98 l hinj hZ C out k45 hk45 N) x1 x2 x3 y0 v91 S91 H locs ls hf hw (lv_sub hl [1, 2, 3, 4, 0] rfl)
set_option maxRecDepth 100000 in
set_option maxHeartbeats 4000000 in
theorem w_X10_unlike_45 {p : Program} (l : Launch) {e : Env} {s : State} {m : MethodId} {args : Array Value} {below : List Frame} {meth : Method} {c : Code} {X : XT} (hinj : XInj X nC) (hZ : ZOK (Zc X)) (C : CX p s m args meth c cX10_unlike 6 RX10 (some .int) X nC (Zc X)) (out : Int × S2) : ∀ (N : Nat), ∀ (x1 : Int) (x2 : Int) (x3 : Int) (S : S2) (H : Heap) (locs : List Loc) (ls : Array Slot), f_X10_unlike_45 N x1 x2 x3 S = some out → WH X shC nC s S H locs → lv_has ls 6 [(0, .ref (X.2.2 0)), (1, .int (iz x1)), (2, .int (iz x2)), (3, .int (iz x3))] → W p l e rmX10_unlike s m args below meth c H locs 0 0 (QI X shC nC s args below out) (F0 m 45 ls []) := by
  intro N
  induction N with
  | zero => intro x1 x2 x3 S H locs ls hf hw hl; cases hf
  | succ N ih =>
    intro x1 x2 x3 S H locs ls hf hw hl
    rw [f_X10_unlike_45.eq_2] at hf
    refine lv_iload_n C.1.1 C.1.2.1 dX10_unlike_45 rfl (lv_at hl 3 rfl) ?_
    refine lv_iload_n C.1.1 C.1.2.1 dX10_unlike_46 rfl (lv_at hl 1 rfl) ?_
    refine r_icmp_ge C (tgt := 117) dX10_unlike_47 (by decide) hf (fun hf => ?_) (fun hf => ?_)
    · refine lv_iload_n C.1.1 C.1.2.1 dX10_unlike_117 rfl (lv_at hl 2 rfl) ?_
      exact r_retI C hw dX10_unlike_118 hf
    · refine lv_iload_n C.1.1 C.1.2.1 dX10_unlike_50 rfl (lv_at hl 3 rfl) ?_
      refine lv_aload_n C.1.1 C.1.2.1 dX10_unlike_51 rfl (lv_at hl 0 rfl) ?_
      refine r_getR (k := 3) C hw shC_0 ltC_0 cO10 rfl (by decide) tw2_49 rfl dX10_unlike_52 ?_
      refine r_getI (k := 0) C hw (is5_s is5_at6) (is5_l is5_at6) cO5 rfl (by decide) tw1_112 rfl dX10_unlike_55 hf (fun v55 hf => ?_)
      refine r_icmp_ge C (tgt := 72) dX10_unlike_58 (by decide) hf (fun hf => ?_) (fun hf => ?_)
      · refine r_iconst (v := 0) C dX10_unlike_72 ?_
        exact (w_X10_unlike_73 l hinj hZ C out (f_X10_unlike_45 N) ih N) x1 x2 x3 0 S H locs ls hf hw (lv_sub hl [0, 1, 2, 3] rfl)
      · refine lv_aload_n C.1.1 C.1.2.1 dX10_unlike_61 rfl (lv_at hl 0 rfl) ?_
        refine r_getR (k := 3) C hw shC_0 ltC_0 cO10 rfl (by decide) tw2_49 rfl dX10_unlike_62 ?_
        refine lv_iload_n C.1.1 C.1.2.1 dX10_unlike_65 rfl (lv_at hl 3 rfl) ?_
        refine r_callI (As := [.int (iz x3)]) (rest := []) (rm := rmX5_persistenceOf) C hw (is5_s is5_at6) (is5_l is5_at6) cO5 tw4_154 tw3_101 tw3_102 tw1_5 tw3_103 hd_X5_persistenceOf rfl ⟨⟨rfl, rfl⟩, Nat.le_of_ble_eq_true rfl, Nat.le_of_ble_eq_true rfl⟩ hl.1 rfl (Nat.le_of_ble_eq_true rfl) dX10_unlike_66 hf (fun o ho => c_X5_persistenceOf l X hinj hZ N S 6 x3 is5_at6 o ho) (fun v66 S66 H locs hf hw => ?_)
        refine lv_goto (tgt := 73) C.1.1 C.1.2.1 dX10_unlike_69 (by decide) ?_
        exact (w_X10_unlike_73 l hinj hZ C out (f_X10_unlike_45 N) ih N) x1 x2 x3 v66 S66 H locs ls hf hw (lv_sub hl [0, 1, 2, 3] rfl)
set_option maxRecDepth 100000 in
set_option maxHeartbeats 4000000 in
theorem c_X10_unlike (l : Launch) (X : XT) (hinj : XInj X nC) (hZ : ZOK (Zc X)) (N : Nat) (S : S2) (out : Int × S2) (hf : f_X10_unlike N S = some out) : MI l X shC nC (Zc X) yX10_unlike cX10_unlike 6 (some .int) rmX10_unlike [.ref (X.2.2 0)] S out := by
  refine met_I (own := RX10) (by decide) rfl hinj hZ (Nat.le_of_ble_eq_true rfl) (fun p e s m args below meth c C ls H locs hw hl => ?_)
  unfold f_X10_unlike at hf
  have hl : lv_has ls 6 [(0, .ref (X.2.2 0))] := hl
  refine lv_aload_n C.1.1 C.1.2.1 dX10_unlike_0 rfl (lv_at hl 0 rfl) ?_
  refine r_getR (k := 11) C hw shC_0 ltC_0 cO10 rfl (by decide) tw2_57 rfl dX10_unlike_1 ?_
  refine r_getI (k := 1) C hw (is0_s is0_at48) (is0_l is0_at48) cO0 rfl (by decide) tw1_92 rfl dX10_unlike_4 hf (fun v4 hf => ?_)
  refine r_if_ne C (tgt := 12) dX10_unlike_7 (by decide) hf (fun hf => ?_) (fun hf => ?_)
  · refine lv_aload_n C.1.1 C.1.2.1 dX10_unlike_12 rfl (lv_at hl 0 rfl) ?_
    refine r_getR (k := 14) C hw shC_0 ltC_0 cO10 rfl (by decide) tw2_60 rfl dX10_unlike_13 ?_
    refine lv_aload_n C.1.1 C.1.2.1 dX10_unlike_16 rfl (lv_at hl 0 rfl) ?_
    refine r_getR (k := 11) C hw shC_0 ltC_0 cO10 rfl (by decide) tw2_57 rfl dX10_unlike_17 ?_
    refine r_callV (As := [.ref (X.2.2 48)]) (rest := []) (rm := rmX5_find) C hw (is5_s is5_at56) (is5_l is5_at56) cO5 tw3_62 tw3_63 tw3_64 tw1_5 tw3_65 hd_X5_find rfl ⟨⟨rfl, rfl⟩, Nat.le_of_ble_eq_true rfl, Nat.le_of_ble_eq_true rfl⟩ hl.1 rfl (Nat.le_of_ble_eq_true rfl) dX10_unlike_20 hf (fun o ho => c_X5_find l X hinj hZ N S 56 48 is5_at56 is0_at48 o ho) (fun S20 H locs hf hw => ?_)
    refine lv_aload_n C.1.1 C.1.2.1 dX10_unlike_23 rfl (lv_at hl 0 rfl) ?_
    refine r_getR (k := 3) C hw shC_0 ltC_0 cO10 rfl (by decide) tw2_49 rfl dX10_unlike_24 ?_
    refine r_getI (k := 0) C hw (is5_s is5_at6) (is5_l is5_at6) cO5 rfl (by decide) tw1_112 rfl dX10_unlike_27 hf (fun v27 hf => ?_)
    refine lv_aload_n C.1.1 C.1.2.1 dX10_unlike_30 rfl (lv_at hl 0 rfl) ?_
    refine r_getR (k := 14) C hw shC_0 ltC_0 cO10 rfl (by decide) tw2_60 rfl dX10_unlike_31 ?_
    refine r_getI (k := 0) C hw (is5_s is5_at56) (is5_l is5_at56) cO5 rfl (by decide) tw1_112 rfl dX10_unlike_34 hf (fun v34 hf => ?_)
    refine r_max C tw4_167 tw3_86 tw1_18 tw3_87 hl.1 (Nat.le_of_ble_eq_true rfl) (Nat.le_of_ble_eq_true rfl) dX10_unlike_37 hf (fun v37 hf => ?_)
    refine lv_istore_n (lv' := [(1, .int (iz v37)), (0, .ref (X.2.2 0))]) C.1.1 C.1.2.1 dX10_unlike_40 rfl hl (by decide) rfl (fun ls hl => ?_)
    refine r_iconst (v := 0) C dX10_unlike_41 ?_
    refine lv_istore_n (lv' := [(2, .int (iz 0)), (1, .int (iz v37)), (0, .ref (X.2.2 0))]) C.1.1 C.1.2.1 dX10_unlike_42 rfl hl (by decide) rfl (fun ls hl => ?_)
    refine r_iconst (v := 0) C dX10_unlike_43 ?_
    refine lv_istore_n (lv' := [(3, .int (iz 0)), (2, .int (iz 0)), (1, .int (iz v37)), (0, .ref (X.2.2 0))]) C.1.1 C.1.2.1 dX10_unlike_44 rfl hl (by decide) rfl (fun ls hl => ?_)
    exact (w_X10_unlike_45 l hinj hZ C out N) v37 0 0 S20 H locs ls hf hw (lv_sub hl [3, 2, 1, 0] rfl)
  · refine r_iconst (v := (-1)) C dX10_unlike_10 ?_
    exact r_retI C hw dX10_unlike_11 hf
def f_X10_missed (N : Nat) (S : S2) : Option (Int × S2) := bI (f_X10_noTrace N S) fun v1 S1 => cI v1 0 (if v1 = 0 then gI S1 20 0 fun v14 => bI (f_X10_matchedBits N S1) fun v23 S23 => rI (bz (iz ((bz (iz 1 <<< (iz v14 &&& 31))) - 1) &&& iz (bz (iz v23 ^^^ iz (-1))))) S23 else rI (-1) S1)
abbrev rmX10_missed : Room := { frames := 4, cells := 0, slots := 0, locals := 92 }
theorem hd_X10_missed : yX10_missed.cls ≠ "java/lang/invoke/MethodHandle" ∧ yX10_missed.cls ≠ "java/lang/invoke/VarHandle" ∧ (parseMethodDescriptor yX10_missed.desc).map (fun d => d.parameters.length) = some 0 := by decide +kernel
set_option maxRecDepth 100000 in
set_option maxHeartbeats 4000000 in
theorem c_X10_missed (l : Launch) (X : XT) (hinj : XInj X nC) (hZ : ZOK (Zc X)) (N : Nat) (S : S2) (out : Int × S2) (hf : f_X10_missed N S = some out) : MI l X shC nC (Zc X) yX10_missed cX10_missed 2 (some .int) rmX10_missed [.ref (X.2.2 0)] S out := by
  refine met_I (own := RX10) (by decide) rfl hinj hZ (Nat.le_of_ble_eq_true rfl) (fun p e s m args below meth c C ls H locs hw hl => ?_)
  unfold f_X10_missed at hf
  have hl : lv_has ls 2 [(0, .ref (X.2.2 0))] := hl
  refine lv_aload_n C.1.1 C.1.2.1 dX10_missed_0 rfl (lv_at hl 0 rfl) ?_
  refine r_callI (As := []) (rest := []) (rm := rmX10_noTrace) C hw shC_0 ltC_0 cO10 tw3_133 tw3_135 tp_22 tw1_1 tw3_136 hd_X10_noTrace rfl ⟨⟨rfl, rfl⟩, Nat.le_of_ble_eq_true rfl, Nat.le_of_ble_eq_true rfl⟩ hl.1 rfl (Nat.le_of_ble_eq_true rfl) dX10_missed_1 hf (fun o ho => c_X10_noTrace l X hinj hZ N S o ho) (fun v1 S1 H locs hf hw => ?_)
  refine r_if_eq C (tgt := 9) dX10_missed_4 (by decide) hf (fun hf => ?_) (fun hf => ?_)
  · refine r_iconst (v := 1) C dX10_missed_9 ?_
    refine lv_aload_n C.1.1 C.1.2.1 dX10_missed_10 rfl (lv_at hl 0 rfl) ?_
    refine r_getR (k := 4) C hw shC_0 ltC_0 cO10 rfl (by decide) tw2_50 rfl dX10_missed_11 ?_
    refine r_getI (k := 0) C hw (is3_s is3_at20) (is3_l is3_at20) cO3 rfl (by decide) tw1_168 rfl dX10_missed_14 hf (fun v14 hf => ?_)
    refine r_ishl C dX10_missed_17 ?_
    refine r_iconst (v := 1) C dX10_missed_18 ?_
    refine r_isub C dX10_missed_19 ?_
    refine lv_istore_n (lv' := [(1, .int (iz ((bz (iz 1 <<< (iz v14 &&& 31))) - 1))), (0, .ref (X.2.2 0))]) C.1.1 C.1.2.1 dX10_missed_20 rfl hl (by decide) rfl (fun ls hl => ?_)
    refine lv_iload_n C.1.1 C.1.2.1 dX10_missed_21 rfl (lv_at hl 0 rfl) ?_
    refine lv_aload_n C.1.1 C.1.2.1 dX10_missed_22 rfl (lv_at hl 1 rfl) ?_
    refine r_callI (As := []) (rest := [.int (iz ((bz (iz 1 <<< (iz v14 &&& 31))) - 1))]) (rm := rmX10_matchedBits) C hw shC_0 ltC_0 cO10 tw4_178 tw4_180 tp_38 tw1_1 tw4_181 hd_X10_matchedBits rfl ⟨⟨rfl, rfl⟩, Nat.le_of_ble_eq_true rfl, Nat.le_of_ble_eq_true rfl⟩ hl.1 rfl (Nat.le_of_ble_eq_true rfl) dX10_missed_23 hf (fun o ho => c_X10_matchedBits l X hinj hZ N S1 o ho) (fun v23 S23 H locs hf hw => ?_)
    refine r_iconst (v := (-1)) C dX10_missed_26 ?_
    refine r_ixor C dX10_missed_27 ?_
    refine r_iand C dX10_missed_28 ?_
    exact r_retI C hw dX10_missed_29 hf
  · refine r_iconst (v := (-1)) C dX10_missed_7 ?_
    exact r_retI C hw dX10_missed_8 hf
def f_X10_would (N : Nat) (S : S2) (a1 : Int) (a2 : Int) (a3 : Int) : Option (Int × S2) := bI (f_X0_refusal N S 4 7 a1 a2) fun v8 S8 => cI v8 (-1) (if v8 = (-1) then cI a3 0 (if a3 < 0 then rI (-1) S8 else cI a3 2 (if a3 ≤ 2 then bV (f_X0_copyFrom N S8 54 4) fun S34 => sI S34 (54 + 1) 48 a1 a2 fun S46 => bV (f_X5_find N S46 56 54) fun S55 => cI a3 0 (if a3 = 0 then gI S55 56 1 fun v66 => rI v66 S55 else cI a3 1 (if a3 = 1 then bI (f_X5_placeOf N S55 56 0) fun v80 S80 => rI v80 S80 else gI S55 56 0 fun v90 => rI v90 S55)) else rI (-1) S8)) else rI (-1) S8)
abbrev rmX10_would : Room := { frames := 4, cells := 0, slots := 0, locals := 93 }
theorem hd_X10_would : yX10_would.cls ≠ "java/lang/invoke/MethodHandle" ∧ yX10_would.cls ≠ "java/lang/invoke/VarHandle" ∧ (parseMethodDescriptor yX10_would.desc).map (fun d => d.parameters.length) = some 3 := by decide +kernel
set_option maxRecDepth 100000 in
set_option maxHeartbeats 4000000 in
theorem c_X10_would (l : Launch) (X : XT) (hinj : XInj X nC) (hZ : ZOK (Zc X)) (N : Nat) (S : S2) (a1 : Int) (a2 : Int) (a3 : Int) (out : Int × S2) (hf : f_X10_would N S a1 a2 a3 = some out) : MI l X shC nC (Zc X) yX10_would cX10_would 4 (some .int) rmX10_would [.ref (X.2.2 0), .int (iz a1), .int (iz a2), .int (iz a3)] S out := by
  refine met_I (own := RX10) (by decide) rfl hinj hZ (Nat.le_of_ble_eq_true rfl) (fun p e s m args below meth c C ls H locs hw hl => ?_)
  unfold f_X10_would at hf
  have hl : lv_has ls 4 [(0, .ref (X.2.2 0)), (1, .int (iz a1)), (2, .int (iz a2)), (3, .int (iz a3))] := hl
  refine lv_aload_n C.1.1 C.1.2.1 dX10_would_0 rfl (lv_at hl 0 rfl) ?_
  refine r_getR (k := 2) C hw shC_0 ltC_0 cO10 rfl (by decide) tw2_48 rfl dX10_would_1 ?_
  refine r_bipush (v := 7) C dX10_would_4 (by decide) ?_
  refine lv_iload_n C.1.1 C.1.2.1 dX10_would_6 rfl (lv_at hl 1 rfl) ?_
  refine lv_iload_n C.1.1 C.1.2.1 dX10_would_7 rfl (lv_at hl 2 rfl) ?_
  refine r_callI (As := [.int (iz 7), .int (iz a1), .int (iz a2)]) (rest := []) (rm := rmX0_refusal) C hw (is0_s is0_at4) (is0_l is0_at4) cO0 tw3_234 tw3_235 tw3_236 tw1_4 tw3_237 hd_X0_refusal rfl ⟨⟨rfl, rfl⟩, Nat.le_of_ble_eq_true rfl, Nat.le_of_ble_eq_true rfl⟩ hl.1 rfl (Nat.le_of_ble_eq_true rfl) dX10_would_8 hf (fun o ho => c_X0_refusal l X hinj hZ N S 4 7 a1 a2 is0_at4 o ho) (fun v8 S8 H locs hf hw => ?_)
  refine r_iconst (v := (-1)) C dX10_would_11 ?_
  refine r_icmp_ne C (tgt := 24) dX10_would_12 (by decide) hf (fun hf => ?_) (fun hf => ?_)
  · refine r_iconst (v := (-1)) C dX10_would_24 ?_
    exact r_retI C hw dX10_would_25 hf
  · refine lv_iload_n C.1.1 C.1.2.1 dX10_would_15 rfl (lv_at hl 3 rfl) ?_
    refine r_if_lt C (tgt := 24) dX10_would_16 (by decide) hf (fun hf => ?_) (fun hf => ?_)
    · refine r_iconst (v := (-1)) C dX10_would_24 ?_
      exact r_retI C hw dX10_would_25 hf
    · refine lv_iload_n C.1.1 C.1.2.1 dX10_would_19 rfl (lv_at hl 3 rfl) ?_
      refine r_iconst (v := 2) C dX10_would_20 ?_
      refine r_icmp_le C (tgt := 26) dX10_would_21 (by decide) hf (fun hf => ?_) (fun hf => ?_)
      · refine lv_aload_n C.1.1 C.1.2.1 dX10_would_26 rfl (lv_at hl 0 rfl) ?_
        refine r_getR (k := 13) C hw shC_0 ltC_0 cO10 rfl (by decide) tw2_59 rfl dX10_would_27 ?_
        refine lv_aload_n C.1.1 C.1.2.1 dX10_would_30 rfl (lv_at hl 0 rfl) ?_
        refine r_getR (k := 2) C hw shC_0 ltC_0 cO10 rfl (by decide) tw2_48 rfl dX10_would_31 ?_
        refine r_callV (As := [.ref (X.2.2 4)]) (rest := []) (rm := rmX0_copyFrom) C hw (is0_s is0_at54) (is0_l is0_at54) cO0 tw3_50 tw3_51 tw3_52 tw1_4 tw3_53 hd_X0_copyFrom rfl ⟨⟨rfl, rfl⟩, Nat.le_of_ble_eq_true rfl, Nat.le_of_ble_eq_true rfl⟩ hl.1 rfl (Nat.le_of_ble_eq_true rfl) dX10_would_34 hf (fun o ho => c_X0_copyFrom l X hinj hZ N S8 54 4 is0_at54 is0_at4 o ho) (fun S34 H locs hf hw => ?_)
        refine lv_aload_n C.1.1 C.1.2.1 dX10_would_37 rfl (lv_at hl 0 rfl) ?_
        refine r_getR (k := 13) C hw shC_0 ltC_0 cO10 rfl (by decide) tw2_59 rfl dX10_would_38 ?_
        refine r_getR (k := 0) C hw (is0_s is0_at54) (is0_l is0_at54) cO0 rfl (by decide) tw1_87 rfl dX10_would_41 ?_
        refine lv_iload_n C.1.1 C.1.2.1 dX10_would_44 rfl (lv_at hl 1 rfl) ?_
        refine lv_iload_n C.1.1 C.1.2.1 dX10_would_45 rfl (lv_at hl 2 rfl) ?_
        refine r_iast C hw (is0_s1 is0_at54) (is0_l1 is0_at54) (Nat.le_of_ble_eq_true rfl) dX10_would_46 hf (fun S46 H locs hf hw => ?_)
        refine lv_aload_n C.1.1 C.1.2.1 dX10_would_47 rfl (lv_at hl 0 rfl) ?_
        refine r_getR (k := 14) C hw shC_0 ltC_0 cO10 rfl (by decide) tw2_60 rfl dX10_would_48 ?_
        refine lv_aload_n C.1.1 C.1.2.1 dX10_would_51 rfl (lv_at hl 0 rfl) ?_
        refine r_getR (k := 13) C hw shC_0 ltC_0 cO10 rfl (by decide) tw2_59 rfl dX10_would_52 ?_
        refine r_callV (As := [.ref (X.2.2 54)]) (rest := []) (rm := rmX5_find) C hw (is5_s is5_at56) (is5_l is5_at56) cO5 tw3_62 tw3_63 tw3_64 tw1_5 tw3_65 hd_X5_find rfl ⟨⟨rfl, rfl⟩, Nat.le_of_ble_eq_true rfl, Nat.le_of_ble_eq_true rfl⟩ hl.1 rfl (Nat.le_of_ble_eq_true rfl) dX10_would_55 hf (fun o ho => c_X5_find l X hinj hZ N S46 56 54 is5_at56 is0_at54 o ho) (fun S55 H locs hf hw => ?_)
        refine lv_iload_n C.1.1 C.1.2.1 dX10_would_58 rfl (lv_at hl 3 rfl) ?_
        refine r_if_ne C (tgt := 70) dX10_would_59 (by decide) hf (fun hf => ?_) (fun hf => ?_)
        · refine lv_iload_n C.1.1 C.1.2.1 dX10_would_70 rfl (lv_at hl 3 rfl) ?_
          refine r_iconst (v := 1) C dX10_would_71 ?_
          refine r_icmp_ne C (tgt := 86) dX10_would_72 (by decide) hf (fun hf => ?_) (fun hf => ?_)
          · refine lv_aload_n C.1.1 C.1.2.1 dX10_would_86 rfl (lv_at hl 0 rfl) ?_
            refine r_getR (k := 14) C hw shC_0 ltC_0 cO10 rfl (by decide) tw2_60 rfl dX10_would_87 ?_
            refine r_getI (k := 0) C hw (is5_s is5_at56) (is5_l is5_at56) cO5 rfl (by decide) tw1_112 rfl dX10_would_90 hf (fun v90 hf => ?_)
            exact r_retI C hw dX10_would_93 hf
          · refine lv_aload_n C.1.1 C.1.2.1 dX10_would_75 rfl (lv_at hl 0 rfl) ?_
            refine r_getR (k := 14) C hw shC_0 ltC_0 cO10 rfl (by decide) tw2_60 rfl dX10_would_76 ?_
            refine r_iconst (v := 0) C dX10_would_79 ?_
            refine r_callI (As := [.int (iz 0)]) (rest := []) (rm := rmX5_placeOf) C hw (is5_s is5_at56) (is5_l is5_at56) cO5 tw4_186 tw3_167 tw3_168 tw1_5 tw3_169 hd_X5_placeOf rfl ⟨⟨rfl, rfl⟩, Nat.le_of_ble_eq_true rfl, Nat.le_of_ble_eq_true rfl⟩ hl.1 rfl (Nat.le_of_ble_eq_true rfl) dX10_would_80 hf (fun o ho => c_X5_placeOf l X hinj hZ N S55 56 0 is5_at56 o ho) (fun v80 S80 H locs hf hw => ?_)
            refine lv_goto (tgt := 93) C.1.1 C.1.2.1 dX10_would_83 (by decide) ?_
            exact r_retI C hw dX10_would_93 hf
        · refine lv_aload_n C.1.1 C.1.2.1 dX10_would_62 rfl (lv_at hl 0 rfl) ?_
          refine r_getR (k := 14) C hw shC_0 ltC_0 cO10 rfl (by decide) tw2_60 rfl dX10_would_63 ?_
          refine r_getI (k := 1) C hw (is5_s is5_at56) (is5_l is5_at56) cO5 rfl (by decide) tw1_115 rfl dX10_would_66 hf (fun v66 hf => ?_)
          exact r_retI C hw dX10_would_69 hf
      · refine r_iconst (v := (-1)) C dX10_would_24 ?_
        exact r_retI C hw dX10_would_25 hf
def f_X10_change_123 (N : Nat) (x1 : Int) (x2 : Int) (x3 : Int) (S : S2) : Option (Int × S2) := cI x1 0 (if x1 = 0 then rI x2 S else rI x3 S)
def f_X10_change_97 (k36 : Int → Int → Int → Int → S2 → Option (Int × S2)) (N : Nat) (x1 : Int) (x2 : Int) (x3 : Int) (x4 : Int) (S : S2) : Option (Int × S2) := aI S (4 + 1) 48 x4 fun v115 => sI S (54 + 1) 48 x4 v115 fun S116 => k36 x1 x2 x3 (x4 + 1) S116
def f_X10_change_86 (k36 : Int → Int → Int → Int → S2 → Option (Int × S2)) (N : Nat) (x1 : Int) (x4 : Int) (S : S2) : Option (Int × S2) := gI S 56 1 fun v93 => (f_X10_change_97 k36 N) x1 x4 v93 x4 S
def f_X10_change_36 (k123 : Int → Int → Int → S2 → Option (Int × S2)) : Nat → Int → Int → Int → Int → S2 → Option (Int × S2)
  | 0, _, _, _, _, _ => none
  | N + 1, x1, x2, x3, x4, S => gI S 4 1 fun v42 => cI x4 v42 (if v42 ≤ x4 then k123 x1 x2 x3 S else sI S (54 + 1) 48 x4 0 fun S58 => bV (f_X5_find N S58 56 54) fun S67 => cI x2 (-1) (if x2 = (-1) then (f_X10_change_86 (f_X10_change_36 k123 N) N) x1 x4 S67 else gI S67 56 1 fun v79 => cI v79 x3 (if x3 ≤ v79 then (f_X10_change_97 (f_X10_change_36 k123 N) N) x1 x2 x3 x4 S67 else (f_X10_change_86 (f_X10_change_36 k123 N) N) x1 x4 S67)))
def f_X10_change (N : Nat) (S : S2) (a1 : Int) : Option (Int × S2) := bI (f_X10_noTrace N S) fun v1 S1 => cI v1 0 (if v1 = 0 then cI a1 0 (if a1 < 0 then rI (-1) S1 else cI a1 1 (if a1 ≤ 1 then bV (f_X0_copyFrom N S1 54 4) fun S26 => (f_X10_change_36 (f_X10_change_123 N) N) a1 (-1) (-1) 0 S26 else rI (-1) S1)) else rI (-1) S1)
abbrev rmX10_change : Room := { frames := 4, cells := 0, slots := 0, locals := 93 }
theorem hd_X10_change : yX10_change.cls ≠ "java/lang/invoke/MethodHandle" ∧ yX10_change.cls ≠ "java/lang/invoke/VarHandle" ∧ (parseMethodDescriptor yX10_change.desc).map (fun d => d.parameters.length) = some 1 := by decide +kernel
set_option maxRecDepth 100000 in
set_option maxHeartbeats 4000000 in
theorem w_X10_change_123 {p : Program} (l : Launch) {e : Env} {s : State} {m : MethodId} {args : Array Value} {below : List Frame} {meth : Method} {c : Code} {X : XT} (hinj : XInj X nC) (hZ : ZOK (Zc X)) (C : CX p s m args meth c cX10_change 5 RX10 (some .int) X nC (Zc X)) (out : Int × S2) : ∀ (N : Nat), ∀ (x1 : Int) (x2 : Int) (x3 : Int) (S : S2) (H : Heap) (locs : List Loc) (ls : Array Slot), f_X10_change_123 N x1 x2 x3 S = some out → WH X shC nC s S H locs → lv_has ls 5 [(1, .int (iz x1)), (2, .int (iz x2)), (3, .int (iz x3))] → W p l e rmX10_change s m args below meth c H locs 0 0 (QI X shC nC s args below out) (F0 m 123 ls []) := by
  intro N x1 x2 x3 S H locs ls hf hw hl
  unfold f_X10_change_123 at hf
  refine lv_iload_n C.1.1 C.1.2.1 dX10_change_123 rfl (lv_at hl 0 rfl) ?_
  refine r_if_ne C (tgt := 131) dX10_change_124 (by decide) hf (fun hf => ?_) (fun hf => ?_)
  · refine lv_iload_n C.1.1 C.1.2.1 dX10_change_131 rfl (lv_at hl 2 rfl) ?_
    exact r_retI C hw dX10_change_132 hf
  · refine lv_iload_n C.1.1 C.1.2.1 dX10_change_127 rfl (lv_at hl 1 rfl) ?_
    refine lv_goto (tgt := 132) C.1.1 C.1.2.1 dX10_change_128 (by decide) ?_
    exact r_retI C hw dX10_change_132 hf
set_option maxRecDepth 100000 in
set_option maxHeartbeats 4000000 in
theorem w_X10_change_97 {p : Program} (l : Launch) {e : Env} {s : State} {m : MethodId} {args : Array Value} {below : List Frame} {meth : Method} {c : Code} {X : XT} (hinj : XInj X nC) (hZ : ZOK (Zc X)) (C : CX p s m args meth c cX10_change 5 RX10 (some .int) X nC (Zc X)) (out : Int × S2) (k36 : Int → Int → Int → Int → S2 → Option (Int × S2)) (hk36 : ∀ (x1 : Int) (x2 : Int) (x3 : Int) (x4 : Int) (S : S2) (H : Heap) (locs : List Loc) (ls : Array Slot), k36 x1 x2 x3 x4 S = some out → WH X shC nC s S H locs → lv_has ls 5 [(0, .ref (X.2.2 0)), (1, .int (iz x1)), (2, .int (iz x2)), (3, .int (iz x3)), (4, .int (iz x4))] → W p l e rmX10_change s m args below meth c H locs 0 0 (QI X shC nC s args below out) (F0 m 36 ls [])) : ∀ (N : Nat), ∀ (x1 : Int) (x2 : Int) (x3 : Int) (x4 : Int) (S : S2) (H : Heap) (locs : List Loc) (ls : Array Slot), f_X10_change_97 k36 N x1 x2 x3 x4 S = some out → WH X shC nC s S H locs → lv_has ls 5 [(0, .ref (X.2.2 0)), (1, .int (iz x1)), (2, .int (iz x2)), (3, .int (iz x3)), (4, .int (iz x4))] → W p l e rmX10_change s m args below meth c H locs 0 0 (QI X shC nC s args below out) (F0 m 97 ls []) := by
  intro N x1 x2 x3 x4 S H locs ls hf hw hl
  unfold f_X10_change_97 at hf
  refine lv_aload_n C.1.1 C.1.2.1 dX10_change_97 rfl (lv_at hl 0 rfl) ?_
  refine r_getR (k := 13) C hw shC_0 ltC_0 cO10 rfl (by decide) tw2_59 rfl dX10_change_98 ?_
  refine r_getR (k := 0) C hw (is0_s is0_at54) (is0_l is0_at54) cO0 rfl (by decide) tw1_87 rfl dX10_change_101 ?_
  refine lv_iload C.1.1 C.1.2.1 dX10_change_104 (lv_at hl 4 rfl) ?_
  refine lv_aload_n C.1.1 C.1.2.1 dX10_change_106 rfl (lv_at hl 0 rfl) ?_
  refine r_getR (k := 2) C hw shC_0 ltC_0 cO10 rfl (by decide) tw2_48 rfl dX10_change_107 ?_
  refine r_getR (k := 0) C hw (is0_s is0_at4) (is0_l is0_at4) cO0 rfl (by decide) tw1_87 rfl dX10_change_110 ?_
  refine lv_iload C.1.1 C.1.2.1 dX10_change_113 (lv_at hl 4 rfl) ?_
  refine r_iald C hw (is0_s1 is0_at4) (is0_l1 is0_at4) (Nat.le_of_ble_eq_true rfl) dX10_change_115 hf (fun v115 hf => ?_)
  refine r_iast C hw (is0_s1 is0_at54) (is0_l1 is0_at54) (Nat.le_of_ble_eq_true rfl) dX10_change_116 hf (fun S116 H locs hf hw => ?_)
  refine lv_iinc (v := iz (x4 + 1)) (lv' := [(4, .int (iz (x4 + 1))), (0, .ref (X.2.2 0)), (1, .int (iz x1)), (2, .int (iz x2)), (3, .int (iz x3))]) C.1.1 C.1.2.1 dX10_change_117 hl (k := 4) rfl (iz_add _ _) (by decide) rfl (fun ls hl => ?_)
  refine lv_goto (tgt := 36) C.1.1 C.1.2.1 dX10_change_120 (by decide) ?_
  exact hk36 x1 x2 x3 (x4 + 1) S116 H locs ls hf hw (lv_sub hl [1, 2, 3, 4, 0] rfl)
set_option maxRecDepth 100000 in
set_option maxHeartbeats 4000000 in
theorem w_X10_change_86 {p : Program} (l : Launch) {e : Env} {s : State} {m : MethodId} {args : Array Value} {below : List Frame} {meth : Method} {c : Code} {X : XT} (hinj : XInj X nC) (hZ : ZOK (Zc X)) (C : CX p s m args meth c cX10_change 5 RX10 (some .int) X nC (Zc X)) (out : Int × S2) (k36 : Int → Int → Int → Int → S2 → Option (Int × S2)) (hk36 : ∀ (x1 : Int) (x2 : Int) (x3 : Int) (x4 : Int) (S : S2) (H : Heap) (locs : List Loc) (ls : Array Slot), k36 x1 x2 x3 x4 S = some out → WH X shC nC s S H locs → lv_has ls 5 [(0, .ref (X.2.2 0)), (1, .int (iz x1)), (2, .int (iz x2)), (3, .int (iz x3)), (4, .int (iz x4))] → W p l e rmX10_change s m args below meth c H locs 0 0 (QI X shC nC s args below out) (F0 m 36 ls [])) : ∀ (N : Nat), ∀ (x1 : Int) (x4 : Int) (S : S2) (H : Heap) (locs : List Loc) (ls : Array Slot), f_X10_change_86 k36 N x1 x4 S = some out → WH X shC nC s S H locs → lv_has ls 5 [(0, .ref (X.2.2 0)), (1, .int (iz x1)), (4, .int (iz x4))] → W p l e rmX10_change s m args below meth c H locs 0 0 (QI X shC nC s args below out) (F0 m 86 ls []) := by
  intro N x1 x4 S H locs ls hf hw hl
  unfold f_X10_change_86 at hf
  refine lv_iload C.1.1 C.1.2.1 dX10_change_86 (lv_at hl 2 rfl) ?_
  refine lv_istore_n (lv' := [(2, .int (iz x4)), (0, .ref (X.2.2 0)), (1, .int (iz x1)), (4, .int (iz x4))]) C.1.1 C.1.2.1 dX10_change_88 rfl hl (by decide) rfl (fun ls hl => ?_)
  refine lv_aload_n C.1.1 C.1.2.1 dX10_change_89 rfl (lv_at hl 1 rfl) ?_
  refine r_getR (k := 14) C hw shC_0 ltC_0 cO10 rfl (by decide) tw2_60 rfl dX10_change_90 ?_
  refine r_getI (k := 1) C hw (is5_s is5_at56) (is5_l is5_at56) cO5 rfl (by decide) tw1_115 rfl dX10_change_93 hf (fun v93 hf => ?_)
  refine lv_istore_n (lv' := [(3, .int (iz v93)), (2, .int (iz x4)), (0, .ref (X.2.2 0)), (1, .int (iz x1)), (4, .int (iz x4))]) C.1.1 C.1.2.1 dX10_change_96 rfl hl (by decide) rfl (fun ls hl => ?_)
  exact (w_X10_change_97 l hinj hZ C out k36 hk36 N) x1 x4 v93 x4 S H locs ls hf hw (lv_sub hl [2, 3, 1, 0, 4] rfl)
set_option maxRecDepth 100000 in
set_option maxHeartbeats 4000000 in
theorem w_X10_change_36 {p : Program} (l : Launch) {e : Env} {s : State} {m : MethodId} {args : Array Value} {below : List Frame} {meth : Method} {c : Code} {X : XT} (hinj : XInj X nC) (hZ : ZOK (Zc X)) (C : CX p s m args meth c cX10_change 5 RX10 (some .int) X nC (Zc X)) (out : Int × S2) (k123 : Int → Int → Int → S2 → Option (Int × S2)) (hk123 : ∀ (x1 : Int) (x2 : Int) (x3 : Int) (S : S2) (H : Heap) (locs : List Loc) (ls : Array Slot), k123 x1 x2 x3 S = some out → WH X shC nC s S H locs → lv_has ls 5 [(1, .int (iz x1)), (2, .int (iz x2)), (3, .int (iz x3))] → W p l e rmX10_change s m args below meth c H locs 0 0 (QI X shC nC s args below out) (F0 m 123 ls [])) : ∀ (N : Nat), ∀ (x1 : Int) (x2 : Int) (x3 : Int) (x4 : Int) (S : S2) (H : Heap) (locs : List Loc) (ls : Array Slot), f_X10_change_36 k123 N x1 x2 x3 x4 S = some out → WH X shC nC s S H locs → lv_has ls 5 [(0, .ref (X.2.2 0)), (1, .int (iz x1)), (2, .int (iz x2)), (3, .int (iz x3)), (4, .int (iz x4))] → W p l e rmX10_change s m args below meth c H locs 0 0 (QI X shC nC s args below out) (F0 m 36 ls []) := by
  intro N
  induction N with
  | zero => intro x1 x2 x3 x4 S H locs ls hf hw hl; cases hf
  | succ N ih =>
    intro x1 x2 x3 x4 S H locs ls hf hw hl
    rw [f_X10_change_36.eq_2] at hf
    refine lv_iload C.1.1 C.1.2.1 dX10_change_36 (lv_at hl 4 rfl) ?_
    refine lv_aload_n C.1.1 C.1.2.1 dX10_change_38 rfl (lv_at hl 0 rfl) ?_
    refine r_getR (k := 2) C hw shC_0 ltC_0 cO10 rfl (by decide) tw2_48 rfl dX10_change_39 ?_
    refine r_getI (k := 1) C hw (is0_s is0_at4) (is0_l is0_at4) cO0 rfl (by decide) tw1_92 rfl dX10_change_42 hf (fun v42 hf => ?_)
    refine r_icmp_ge C (tgt := 123) dX10_change_45 (by decide) hf (fun hf => ?_) (fun hf => ?_)
    · exact hk123 x1 x2 x3 S H locs ls hf hw (lv_sub hl [1, 2, 3] rfl)
    · refine lv_aload_n C.1.1 C.1.2.1 dX10_change_48 rfl (lv_at hl 0 rfl) ?_
      refine r_getR (k := 13) C hw shC_0 ltC_0 cO10 rfl (by decide) tw2_59 rfl dX10_change_49 ?_
      refine r_getR (k := 0) C hw (is0_s is0_at54) (is0_l is0_at54) cO0 rfl (by decide) tw1_87 rfl dX10_change_52 ?_
      refine lv_iload C.1.1 C.1.2.1 dX10_change_55 (lv_at hl 4 rfl) ?_
      refine r_iconst (v := 0) C dX10_change_57 ?_
      refine r_iast C hw (is0_s1 is0_at54) (is0_l1 is0_at54) (Nat.le_of_ble_eq_true rfl) dX10_change_58 hf (fun S58 H locs hf hw => ?_)
      refine lv_aload_n C.1.1 C.1.2.1 dX10_change_59 rfl (lv_at hl 0 rfl) ?_
      refine r_getR (k := 14) C hw shC_0 ltC_0 cO10 rfl (by decide) tw2_60 rfl dX10_change_60 ?_
      refine lv_aload_n C.1.1 C.1.2.1 dX10_change_63 rfl (lv_at hl 0 rfl) ?_
      refine r_getR (k := 13) C hw shC_0 ltC_0 cO10 rfl (by decide) tw2_59 rfl dX10_change_64 ?_
      refine r_callV (As := [.ref (X.2.2 54)]) (rest := []) (rm := rmX5_find) C hw (is5_s is5_at56) (is5_l is5_at56) cO5 tw3_62 tw3_63 tw3_64 tw1_5 tw3_65 hd_X5_find rfl ⟨⟨rfl, rfl⟩, Nat.le_of_ble_eq_true rfl, Nat.le_of_ble_eq_true rfl⟩ hl.1 rfl (Nat.le_of_ble_eq_true rfl) dX10_change_67 hf (fun o ho => c_X5_find l X hinj hZ N S58 56 54 is5_at56 is0_at54 o ho) (fun S67 H locs hf hw => ?_)
      refine lv_iload_n C.1.1 C.1.2.1 dX10_change_70 rfl (lv_at hl 2 rfl) ?_
      refine r_iconst (v := (-1)) C dX10_change_71 ?_
      refine r_icmp_eq C (tgt := 86) dX10_change_72 (by decide) hf (fun hf => ?_) (fun hf => ?_)
      · exact (w_X10_change_86 l hinj hZ C out (f_X10_change_36 k123 N) ih N) x1 x4 S67 H locs ls hf hw (lv_sub hl [0, 1, 4] rfl)
      · refine lv_aload_n C.1.1 C.1.2.1 dX10_change_75 rfl (lv_at hl 0 rfl) ?_
        refine r_getR (k := 14) C hw shC_0 ltC_0 cO10 rfl (by decide) tw2_60 rfl dX10_change_76 ?_
        refine r_getI (k := 1) C hw (is5_s is5_at56) (is5_l is5_at56) cO5 rfl (by decide) tw1_115 rfl dX10_change_79 hf (fun v79 hf => ?_)
        refine lv_iload_n C.1.1 C.1.2.1 dX10_change_82 rfl (lv_at hl 3 rfl) ?_
        refine r_icmp_ge C (tgt := 97) dX10_change_83 (by decide) hf (fun hf => ?_) (fun hf => ?_)
        · exact (w_X10_change_97 l hinj hZ C out (f_X10_change_36 k123 N) ih N) x1 x2 x3 x4 S67 H locs ls hf hw (lv_sub hl [0, 1, 2, 3, 4] rfl)
        · exact (w_X10_change_86 l hinj hZ C out (f_X10_change_36 k123 N) ih N) x1 x4 S67 H locs ls hf hw (lv_sub hl [0, 1, 4] rfl)
set_option maxRecDepth 100000 in
set_option maxHeartbeats 4000000 in
theorem c_X10_change (l : Launch) (X : XT) (hinj : XInj X nC) (hZ : ZOK (Zc X)) (N : Nat) (S : S2) (a1 : Int) (out : Int × S2) (hf : f_X10_change N S a1 = some out) : MI l X shC nC (Zc X) yX10_change cX10_change 5 (some .int) rmX10_change [.ref (X.2.2 0), .int (iz a1)] S out := by
  refine met_I (own := RX10) (by decide) rfl hinj hZ (Nat.le_of_ble_eq_true rfl) (fun p e s m args below meth c C ls H locs hw hl => ?_)
  unfold f_X10_change at hf
  have hl : lv_has ls 5 [(0, .ref (X.2.2 0)), (1, .int (iz a1))] := hl
  refine lv_aload_n C.1.1 C.1.2.1 dX10_change_0 rfl (lv_at hl 0 rfl) ?_
  refine r_callI (As := []) (rest := []) (rm := rmX10_noTrace) C hw shC_0 ltC_0 cO10 tw3_133 tw3_135 tp_22 tw1_1 tw3_136 hd_X10_noTrace rfl ⟨⟨rfl, rfl⟩, Nat.le_of_ble_eq_true rfl, Nat.le_of_ble_eq_true rfl⟩ hl.1 rfl (Nat.le_of_ble_eq_true rfl) dX10_change_1 hf (fun o ho => c_X10_noTrace l X hinj hZ N S o ho) (fun v1 S1 H locs hf hw => ?_)
  refine r_if_ne C (tgt := 16) dX10_change_4 (by decide) hf (fun hf => ?_) (fun hf => ?_)
  · refine r_iconst (v := (-1)) C dX10_change_16 ?_
    exact r_retI C hw dX10_change_17 hf
  · refine lv_iload_n C.1.1 C.1.2.1 dX10_change_7 rfl (lv_at hl 1 rfl) ?_
    refine r_if_lt C (tgt := 16) dX10_change_8 (by decide) hf (fun hf => ?_) (fun hf => ?_)
    · refine r_iconst (v := (-1)) C dX10_change_16 ?_
      exact r_retI C hw dX10_change_17 hf
    · refine lv_iload_n C.1.1 C.1.2.1 dX10_change_11 rfl (lv_at hl 1 rfl) ?_
      refine r_iconst (v := 1) C dX10_change_12 ?_
      refine r_icmp_le C (tgt := 18) dX10_change_13 (by decide) hf (fun hf => ?_) (fun hf => ?_)
      · refine lv_aload_n C.1.1 C.1.2.1 dX10_change_18 rfl (lv_at hl 0 rfl) ?_
        refine r_getR (k := 13) C hw shC_0 ltC_0 cO10 rfl (by decide) tw2_59 rfl dX10_change_19 ?_
        refine lv_aload_n C.1.1 C.1.2.1 dX10_change_22 rfl (lv_at hl 0 rfl) ?_
        refine r_getR (k := 2) C hw shC_0 ltC_0 cO10 rfl (by decide) tw2_48 rfl dX10_change_23 ?_
        refine r_callV (As := [.ref (X.2.2 4)]) (rest := []) (rm := rmX0_copyFrom) C hw (is0_s is0_at54) (is0_l is0_at54) cO0 tw3_50 tw3_51 tw3_52 tw1_4 tw3_53 hd_X0_copyFrom rfl ⟨⟨rfl, rfl⟩, Nat.le_of_ble_eq_true rfl, Nat.le_of_ble_eq_true rfl⟩ hl.1 rfl (Nat.le_of_ble_eq_true rfl) dX10_change_26 hf (fun o ho => c_X0_copyFrom l X hinj hZ N S1 54 4 is0_at54 is0_at4 o ho) (fun S26 H locs hf hw => ?_)
        refine r_iconst (v := (-1)) C dX10_change_29 ?_
        refine lv_istore_n (lv' := [(2, .int (iz (-1))), (0, .ref (X.2.2 0)), (1, .int (iz a1))]) C.1.1 C.1.2.1 dX10_change_30 rfl hl (by decide) rfl (fun ls hl => ?_)
        refine r_iconst (v := (-1)) C dX10_change_31 ?_
        refine lv_istore_n (lv' := [(3, .int (iz (-1))), (2, .int (iz (-1))), (0, .ref (X.2.2 0)), (1, .int (iz a1))]) C.1.1 C.1.2.1 dX10_change_32 rfl hl (by decide) rfl (fun ls hl => ?_)
        refine r_iconst (v := 0) C dX10_change_33 ?_
        refine lv_istore (lv' := [(4, .int (iz 0)), (3, .int (iz (-1))), (2, .int (iz (-1))), (0, .ref (X.2.2 0)), (1, .int (iz a1))]) C.1.1 C.1.2.1 dX10_change_34 hl (by decide) rfl (fun ls hl => ?_)
        exact (w_X10_change_36 l hinj hZ C out (f_X10_change_123 N) (w_X10_change_123 l hinj hZ C out N) N) a1 (-1) (-1) 0 S26 H locs ls hf hw (lv_sub hl [3, 4, 2, 1, 0] rfl)
      · refine r_iconst (v := (-1)) C dX10_change_16 ?_
        exact r_retI C hw dX10_change_17 hf
def f_X10_run_133 (j33 : Nat) (N : Nat) (x2 : Int) (x4 : Int) (S : S2) : Option (Int × S2) := cI x2 1 (if x2 = 1 then gI S 56 1 fun v142 => rI v142 S else gI S ((fun j => 32 + 4 * j) j33) 0 fun v149 => cI x4 v149 (if v149 ≤ x4 then rI (-1) S else rI x4 S))
def f_X10_run_60 (j33 : Nat) (k133 : Int → Int → S2 → Option (Int × S2)) : Nat → Int → Int → S2 → Option (Int × S2)
  | 0, _, _, _ => none
  | N + 1, x2, x4, S => gI S ((fun j => 32 + 4 * j) j33) 0 fun v63 => cI x4 v63 (if v63 ≤ x4 then k133 x2 x4 S else bI (f_X7_refusalOf N S ((fun j => 32 + 4 * j) j33) x4 54) fun v76 S76 => cI v76 (-1) (if v76 = (-1) then aI S76 (((fun j => 32 + 4 * j) j33) + 1) 12 x4 fun v93 => aI S76 (((fun j => 32 + 4 * j) j33) + 2) 12 x4 fun v100 => aI S76 (((fun j => 32 + 4 * j) j33) + 3) 12 x4 fun v107 => bI (f_X0_undergo N S76 54 v93 v100 v107 56) fun v112 S112 => bV (f_X5_find N S112 56 54) fun S124 => (f_X10_run_60 j33 k133 N) x2 (x4 + 1) S124 else k133 x2 x4 S76))
def f_X10_run (N : Nat) (S : S2) (a1 : Int) (a2 : Int) : Option (Int × S2) := bI (f_X10_hasScript N S a1) fun v2 S2 => cI v2 0 (if v2 = 0 then rI (-1000000) S2 else bI (f_X10_noTrace N S2) fun v9 S9 => cI v9 0 (if v9 = 0 then cI a2 0 (if a2 < 0 then rI (-1000000) S9 else cI a2 1 (if a2 ≤ 1 then aR 4 a1 fun j33 => bV (f_X0_copyFrom N S9 54 4) fun S43 => bV (f_X5_find N S43 56 54) fun S54 => (f_X10_run_60 j33 (f_X10_run_133 j33 N) N) a2 0 S54 else rI (-1000000) S9)) else rI (-1000000) S9))
abbrev rmX10_run : Room := { frames := 4, cells := 0, slots := 0, locals := 100 }
theorem hd_X10_run : yX10_run.cls ≠ "java/lang/invoke/MethodHandle" ∧ yX10_run.cls ≠ "java/lang/invoke/VarHandle" ∧ (parseMethodDescriptor yX10_run.desc).map (fun d => d.parameters.length) = some 2 := by decide +kernel
set_option maxRecDepth 100000 in
set_option maxHeartbeats 4000000 in
theorem w_X10_run_133 {p : Program} (l : Launch) {e : Env} {s : State} {m : MethodId} {args : Array Value} {below : List Frame} {meth : Method} {c : Code} {X : XT} (hinj : XInj X nC) (hZ : ZOK (Zc X)) (C : CX p s m args meth c cX10_run 5 RX10 (some .int) X nC (Zc X)) (out : Int × S2) (j33 : Nat) (hj33 : j33 < 4) : ∀ (N : Nat), ∀ (x2 : Int) (x4 : Int) (S : S2) (H : Heap) (locs : List Loc) (ls : Array Slot), f_X10_run_133 j33 N x2 x4 S = some out → WH X shC nC s S H locs → lv_has ls 5 [(0, .ref (X.2.2 0)), (2, .int (iz x2)), (3, .ref (X.2.2 ((fun j => 32 + 4 * j) j33))), (4, .int (iz x4))] → W p l e rmX10_run s m args below meth c H locs 0 0 (QI X shC nC s args below out) (F0 m 133 ls []) := by
  intro N x2 x4 S H locs ls hf hw hl
  unfold f_X10_run_133 at hf
  refine lv_iload_n C.1.1 C.1.2.1 dX10_run_133 rfl (lv_at hl 1 rfl) ?_
  refine r_iconst (v := 1) C dX10_run_134 ?_
  refine r_icmp_ne C (tgt := 146) dX10_run_135 (by decide) hf (fun hf => ?_) (fun hf => ?_)
  · refine lv_iload C.1.1 C.1.2.1 dX10_run_146 (lv_at hl 3 rfl) ?_
    refine lv_aload_n C.1.1 C.1.2.1 dX10_run_148 rfl (lv_at hl 2 rfl) ?_
    refine r_getI (k := 0) C hw (is7_s (is7_el hj33)) (is7_l (is7_el hj33)) cO7 rfl (by decide) tw2_4 rfl dX10_run_149 hf (fun v149 hf => ?_)
    refine r_icmp_ge C (tgt := 160) dX10_run_152 (by decide) hf (fun hf => ?_) (fun hf => ?_)
    · refine r_iconst (v := (-1)) C dX10_run_160 ?_
      exact r_retI C hw dX10_run_161 hf
    · refine lv_iload C.1.1 C.1.2.1 dX10_run_155 (lv_at hl 3 rfl) ?_
      refine lv_goto (tgt := 161) C.1.1 C.1.2.1 dX10_run_157 (by decide) ?_
      exact r_retI C hw dX10_run_161 hf
  · refine lv_aload_n C.1.1 C.1.2.1 dX10_run_138 rfl (lv_at hl 0 rfl) ?_
    refine r_getR (k := 14) C hw shC_0 ltC_0 cO10 rfl (by decide) tw2_60 rfl dX10_run_139 ?_
    refine r_getI (k := 1) C hw (is5_s is5_at56) (is5_l is5_at56) cO5 rfl (by decide) tw1_115 rfl dX10_run_142 hf (fun v142 hf => ?_)
    exact r_retI C hw dX10_run_145 hf
set_option maxRecDepth 100000 in
set_option maxHeartbeats 4000000 in
theorem w_X10_run_60 {p : Program} (l : Launch) {e : Env} {s : State} {m : MethodId} {args : Array Value} {below : List Frame} {meth : Method} {c : Code} {X : XT} (hinj : XInj X nC) (hZ : ZOK (Zc X)) (C : CX p s m args meth c cX10_run 5 RX10 (some .int) X nC (Zc X)) (out : Int × S2) (j33 : Nat) (hj33 : j33 < 4) (k133 : Int → Int → S2 → Option (Int × S2)) (hk133 : ∀ (x2 : Int) (x4 : Int) (S : S2) (H : Heap) (locs : List Loc) (ls : Array Slot), k133 x2 x4 S = some out → WH X shC nC s S H locs → lv_has ls 5 [(0, .ref (X.2.2 0)), (2, .int (iz x2)), (3, .ref (X.2.2 ((fun j => 32 + 4 * j) j33))), (4, .int (iz x4))] → W p l e rmX10_run s m args below meth c H locs 0 0 (QI X shC nC s args below out) (F0 m 133 ls [])) : ∀ (N : Nat), ∀ (x2 : Int) (x4 : Int) (S : S2) (H : Heap) (locs : List Loc) (ls : Array Slot), f_X10_run_60 j33 k133 N x2 x4 S = some out → WH X shC nC s S H locs → lv_has ls 5 [(0, .ref (X.2.2 0)), (2, .int (iz x2)), (3, .ref (X.2.2 ((fun j => 32 + 4 * j) j33))), (4, .int (iz x4))] → W p l e rmX10_run s m args below meth c H locs 0 0 (QI X shC nC s args below out) (F0 m 60 ls []) := by
  intro N
  induction N with
  | zero => intro x2 x4 S H locs ls hf hw hl; cases hf
  | succ N ih =>
    intro x2 x4 S H locs ls hf hw hl
    rw [f_X10_run_60.eq_2] at hf
    refine lv_iload C.1.1 C.1.2.1 dX10_run_60 (lv_at hl 3 rfl) ?_
    refine lv_aload_n C.1.1 C.1.2.1 dX10_run_62 rfl (lv_at hl 2 rfl) ?_
    refine r_getI (k := 0) C hw (is7_s (is7_el hj33)) (is7_l (is7_el hj33)) cO7 rfl (by decide) tw2_4 rfl dX10_run_63 hf (fun v63 hf => ?_)
    refine r_icmp_ge C (tgt := 133) dX10_run_66 (by decide) hf (fun hf => ?_) (fun hf => ?_)
    · exact hk133 x2 x4 S H locs ls hf hw (lv_sub hl [0, 1, 2, 3] rfl)
    · refine lv_aload_n C.1.1 C.1.2.1 dX10_run_69 rfl (lv_at hl 2 rfl) ?_
      refine lv_iload C.1.1 C.1.2.1 dX10_run_70 (lv_at hl 3 rfl) ?_
      refine lv_aload_n C.1.1 C.1.2.1 dX10_run_72 rfl (lv_at hl 0 rfl) ?_
      refine r_getR (k := 13) C hw shC_0 ltC_0 cO10 rfl (by decide) tw2_59 rfl dX10_run_73 ?_
      refine r_callI (As := [.int (iz x4), .ref (X.2.2 54)]) (rest := []) (rm := rmX7_refusalOf) C hw (is7_s (is7_el hj33)) (is7_l (is7_el hj33)) cO7 tw5_4 tw5_5 tw5_6 tw1_9 tw5_7 hd_X7_refusalOf rfl ⟨⟨rfl, rfl⟩, Nat.le_of_ble_eq_true rfl, Nat.le_of_ble_eq_true rfl⟩ hl.1 rfl (Nat.le_of_ble_eq_true rfl) dX10_run_76 hf (fun o ho => c_X7_refusalOf l X hinj hZ N S ((fun j => 32 + 4 * j) j33) x4 54 (is7_el hj33) is0_at54 o ho) (fun v76 S76 H locs hf hw => ?_)
      refine r_iconst (v := (-1)) C dX10_run_79 ?_
      refine r_icmp_ne C (tgt := 133) dX10_run_80 (by decide) hf (fun hf => ?_) (fun hf => ?_)
      · exact hk133 x2 x4 S76 H locs ls hf hw (lv_sub hl [0, 1, 2, 3] rfl)
      · refine lv_aload_n C.1.1 C.1.2.1 dX10_run_83 rfl (lv_at hl 0 rfl) ?_
        refine r_getR (k := 13) C hw shC_0 ltC_0 cO10 rfl (by decide) tw2_59 rfl dX10_run_84 ?_
        refine lv_aload_n C.1.1 C.1.2.1 dX10_run_87 rfl (lv_at hl 2 rfl) ?_
        refine r_getR (k := 1) C hw (is7_s (is7_el hj33)) (is7_l (is7_el hj33)) cO7 rfl (by decide) tw2_6 rfl dX10_run_88 ?_
        refine lv_iload C.1.1 C.1.2.1 dX10_run_91 (lv_at hl 3 rfl) ?_
        refine r_iald C hw (is7_s1 (is7_el hj33)) (is7_l1 (is7_el hj33)) (Nat.le_of_ble_eq_true rfl) dX10_run_93 hf (fun v93 hf => ?_)
        refine lv_aload_n C.1.1 C.1.2.1 dX10_run_94 rfl (lv_at hl 2 rfl) ?_
        refine r_getR (k := 2) C hw (is7_s (is7_el hj33)) (is7_l (is7_el hj33)) cO7 rfl (by decide) tw2_8 rfl dX10_run_95 ?_
        refine lv_iload C.1.1 C.1.2.1 dX10_run_98 (lv_at hl 3 rfl) ?_
        refine r_iald C hw (is7_s2 (is7_el hj33)) (is7_l2 (is7_el hj33)) (Nat.le_of_ble_eq_true rfl) dX10_run_100 hf (fun v100 hf => ?_)
        refine lv_aload_n C.1.1 C.1.2.1 dX10_run_101 rfl (lv_at hl 2 rfl) ?_
        refine r_getR (k := 3) C hw (is7_s (is7_el hj33)) (is7_l (is7_el hj33)) cO7 rfl (by decide) tw2_10 rfl dX10_run_102 ?_
        refine lv_iload C.1.1 C.1.2.1 dX10_run_105 (lv_at hl 3 rfl) ?_
        refine r_iald C hw (is7_s3 (is7_el hj33)) (is7_l3 (is7_el hj33)) (Nat.le_of_ble_eq_true rfl) dX10_run_107 hf (fun v107 hf => ?_)
        refine lv_aload_n C.1.1 C.1.2.1 dX10_run_108 rfl (lv_at hl 0 rfl) ?_
        refine r_getR (k := 14) C hw shC_0 ltC_0 cO10 rfl (by decide) tw2_60 rfl dX10_run_109 ?_
        refine r_callI (As := [.int (iz v93), .int (iz v100), .int (iz v107), .ref (X.2.2 56)]) (rest := []) (rm := rmX0_undergo) C hw (is0_s is0_at54) (is0_l is0_at54) cO0 tw4_12 tw4_13 tw4_14 tw1_4 tw4_15 hd_X0_undergo rfl ⟨⟨rfl, rfl⟩, Nat.le_of_ble_eq_true rfl, Nat.le_of_ble_eq_true rfl⟩ hl.1 rfl (Nat.le_of_ble_eq_true rfl) dX10_run_112 hf (fun o ho => c_X0_undergo l X hinj hZ N S76 54 v93 v100 v107 56 is0_at54 is5_at56 o ho) (fun v112 S112 H locs hf hw => ?_)
        refine lv_pop C.1.1 C.1.2.1 dX10_run_115 rfl ?_
        refine lv_aload_n C.1.1 C.1.2.1 dX10_run_116 rfl (lv_at hl 0 rfl) ?_
        refine r_getR (k := 14) C hw shC_0 ltC_0 cO10 rfl (by decide) tw2_60 rfl dX10_run_117 ?_
        refine lv_aload_n C.1.1 C.1.2.1 dX10_run_120 rfl (lv_at hl 0 rfl) ?_
        refine r_getR (k := 13) C hw shC_0 ltC_0 cO10 rfl (by decide) tw2_59 rfl dX10_run_121 ?_
        refine r_callV (As := [.ref (X.2.2 54)]) (rest := []) (rm := rmX5_find) C hw (is5_s is5_at56) (is5_l is5_at56) cO5 tw3_62 tw3_63 tw3_64 tw1_5 tw3_65 hd_X5_find rfl ⟨⟨rfl, rfl⟩, Nat.le_of_ble_eq_true rfl, Nat.le_of_ble_eq_true rfl⟩ hl.1 rfl (Nat.le_of_ble_eq_true rfl) dX10_run_124 hf (fun o ho => c_X5_find l X hinj hZ N S112 56 54 is5_at56 is0_at54 o ho) (fun S124 H locs hf hw => ?_)
        refine lv_iinc (v := iz (x4 + 1)) (lv' := [(4, .int (iz (x4 + 1))), (0, .ref (X.2.2 0)), (2, .int (iz x2)), (3, .ref (X.2.2 ((fun j => 32 + 4 * j) j33)))]) C.1.1 C.1.2.1 dX10_run_127 hl (k := 3) rfl (iz_add _ _) (by decide) rfl (fun ls hl => ?_)
        refine lv_goto (tgt := 60) C.1.1 C.1.2.1 dX10_run_130 (by decide) ?_
        exact ih x2 (x4 + 1) S124 H locs ls hf hw (lv_sub hl [1, 2, 3, 0] rfl)
set_option maxRecDepth 100000 in
set_option maxHeartbeats 4000000 in
theorem c_X10_run (l : Launch) (X : XT) (hinj : XInj X nC) (hZ : ZOK (Zc X)) (N : Nat) (S : S2) (a1 : Int) (a2 : Int) (out : Int × S2) (hf : f_X10_run N S a1 a2 = some out) : MI l X shC nC (Zc X) yX10_run cX10_run 5 (some .int) rmX10_run [.ref (X.2.2 0), .int (iz a1), .int (iz a2)] S out := by
  refine met_I (own := RX10) (by decide) rfl hinj hZ (Nat.le_of_ble_eq_true rfl) (fun p e s m args below meth c C ls H locs hw hl => ?_)
  unfold f_X10_run at hf
  have hl : lv_has ls 5 [(0, .ref (X.2.2 0)), (1, .int (iz a1)), (2, .int (iz a2))] := hl
  refine lv_aload_n C.1.1 C.1.2.1 dX10_run_0 rfl (lv_at hl 0 rfl) ?_
  refine lv_iload_n C.1.1 C.1.2.1 dX10_run_1 rfl (lv_at hl 1 rfl) ?_
  refine r_callI (As := [.int (iz a1)]) (rest := []) (rm := rmX10_hasScript) C hw shC_0 ltC_0 cO10 tw4_230 tw4_232 tp_39 tw1_1 tw4_233 hd_X10_hasScript rfl ⟨⟨rfl, rfl⟩, Nat.le_of_ble_eq_true rfl, Nat.le_of_ble_eq_true rfl⟩ hl.1 rfl (Nat.le_of_ble_eq_true rfl) dX10_run_2 hf (fun o ho => c_X10_hasScript l X hinj hZ N S a1 o ho) (fun v2 S2 H locs hf hw => ?_)
  refine r_if_eq C (tgt := 24) dX10_run_5 (by decide) hf (fun hf => ?_) (fun hf => ?_)
  · refine r_ldcw (v := (-1000000)) C tw4_173 (by decide) dX10_run_24 ?_
    exact r_retI C hw dX10_run_27 hf
  · refine lv_aload_n C.1.1 C.1.2.1 dX10_run_8 rfl (lv_at hl 0 rfl) ?_
    refine r_callI (As := []) (rest := []) (rm := rmX10_noTrace) C hw shC_0 ltC_0 cO10 tw3_133 tw3_135 tp_22 tw1_1 tw3_136 hd_X10_noTrace rfl ⟨⟨rfl, rfl⟩, Nat.le_of_ble_eq_true rfl, Nat.le_of_ble_eq_true rfl⟩ hl.1 rfl (Nat.le_of_ble_eq_true rfl) dX10_run_9 hf (fun o ho => c_X10_noTrace l X hinj hZ N S2 o ho) (fun v9 S9 H locs hf hw => ?_)
    refine r_if_ne C (tgt := 24) dX10_run_12 (by decide) hf (fun hf => ?_) (fun hf => ?_)
    · refine r_ldcw (v := (-1000000)) C tw4_173 (by decide) dX10_run_24 ?_
      exact r_retI C hw dX10_run_27 hf
    · refine lv_iload_n C.1.1 C.1.2.1 dX10_run_15 rfl (lv_at hl 2 rfl) ?_
      refine r_if_lt C (tgt := 24) dX10_run_16 (by decide) hf (fun hf => ?_) (fun hf => ?_)
      · refine r_ldcw (v := (-1000000)) C tw4_173 (by decide) dX10_run_24 ?_
        exact r_retI C hw dX10_run_27 hf
      · refine lv_iload_n C.1.1 C.1.2.1 dX10_run_19 rfl (lv_at hl 2 rfl) ?_
        refine r_iconst (v := 1) C dX10_run_20 ?_
        refine r_icmp_le C (tgt := 28) dX10_run_21 (by decide) hf (fun hf => ?_) (fun hf => ?_)
        · refine lv_aload_n C.1.1 C.1.2.1 dX10_run_28 rfl (lv_at hl 0 rfl) ?_
          refine r_getR (k := 7) C hw shC_0 ltC_0 cO10 rfl (by decide) tw2_53 rfl dX10_run_29 ?_
          refine lv_iload_n C.1.1 C.1.2.1 dX10_run_32 rfl (lv_at hl 1 rfl) ?_
          refine r_aald C hw shC_31 rfl ltC_31 (Nat.le_of_ble_eq_true rfl) dX10_run_33 hf (fun j33 hj33 hf => ?_)
          refine lv_astore_n (lv' := [(3, .ref (X.2.2 ((fun j => 32 + 4 * j) j33))), (0, .ref (X.2.2 0)), (1, .int (iz a1)), (2, .int (iz a2))]) C.1.1 C.1.2.1 dX10_run_34 rfl hl (by decide) rfl (fun ls hl => ?_)
          refine lv_aload_n C.1.1 C.1.2.1 dX10_run_35 rfl (lv_at hl 1 rfl) ?_
          refine r_getR (k := 13) C hw shC_0 ltC_0 cO10 rfl (by decide) tw2_59 rfl dX10_run_36 ?_
          refine lv_aload_n C.1.1 C.1.2.1 dX10_run_39 rfl (lv_at hl 1 rfl) ?_
          refine r_getR (k := 2) C hw shC_0 ltC_0 cO10 rfl (by decide) tw2_48 rfl dX10_run_40 ?_
          refine r_callV (As := [.ref (X.2.2 4)]) (rest := []) (rm := rmX0_copyFrom) C hw (is0_s is0_at54) (is0_l is0_at54) cO0 tw3_50 tw3_51 tw3_52 tw1_4 tw3_53 hd_X0_copyFrom rfl ⟨⟨rfl, rfl⟩, Nat.le_of_ble_eq_true rfl, Nat.le_of_ble_eq_true rfl⟩ hl.1 rfl (Nat.le_of_ble_eq_true rfl) dX10_run_43 hf (fun o ho => c_X0_copyFrom l X hinj hZ N S9 54 4 is0_at54 is0_at4 o ho) (fun S43 H locs hf hw => ?_)
          refine lv_aload_n C.1.1 C.1.2.1 dX10_run_46 rfl (lv_at hl 1 rfl) ?_
          refine r_getR (k := 14) C hw shC_0 ltC_0 cO10 rfl (by decide) tw2_60 rfl dX10_run_47 ?_
          refine lv_aload_n C.1.1 C.1.2.1 dX10_run_50 rfl (lv_at hl 1 rfl) ?_
          refine r_getR (k := 13) C hw shC_0 ltC_0 cO10 rfl (by decide) tw2_59 rfl dX10_run_51 ?_
          refine r_callV (As := [.ref (X.2.2 54)]) (rest := []) (rm := rmX5_find) C hw (is5_s is5_at56) (is5_l is5_at56) cO5 tw3_62 tw3_63 tw3_64 tw1_5 tw3_65 hd_X5_find rfl ⟨⟨rfl, rfl⟩, Nat.le_of_ble_eq_true rfl, Nat.le_of_ble_eq_true rfl⟩ hl.1 rfl (Nat.le_of_ble_eq_true rfl) dX10_run_54 hf (fun o ho => c_X5_find l X hinj hZ N S43 56 54 is5_at56 is0_at54 o ho) (fun S54 H locs hf hw => ?_)
          refine r_iconst (v := 0) C dX10_run_57 ?_
          refine lv_istore (lv' := [(4, .int (iz 0)), (3, .ref (X.2.2 ((fun j => 32 + 4 * j) j33))), (0, .ref (X.2.2 0)), (1, .int (iz a1)), (2, .int (iz a2))]) C.1.1 C.1.2.1 dX10_run_58 hl (by decide) rfl (fun ls hl => ?_)
          exact (w_X10_run_60 l hinj hZ C out j33 hj33 (f_X10_run_133 j33 N) (w_X10_run_133 l hinj hZ C out j33 hj33 N) N) a2 0 S54 H locs ls hf hw (lv_sub hl [2, 4, 1, 0] rfl)
        · refine r_ldcw (v := (-1000000)) C tw4_173 (by decide) dX10_run_24 ?_
          exact r_retI C hw dX10_run_27 hf
def f_X10_perform_26 (j22 : Nat) : Nat → Int → S2 → Option (Int × S2)
  | 0, _, _ => none
  | N + 1, x3, S => gI S ((fun j => 32 + 4 * j) j22) 0 fun v28 => cI x3 v28 (if v28 ≤ x3 then rI x3 S else bI (f_X7_refusalOf N S ((fun j => 32 + 4 * j) j22) x3 4) fun v40 S40 => cI v40 (-1) (if v40 = (-1) then aI S40 (((fun j => 32 + 4 * j) j22) + 1) 12 x3 fun v53 => aI S40 (((fun j => 32 + 4 * j) j22) + 2) 12 x3 fun v59 => aI S40 (((fun j => 32 + 4 * j) j22) + 3) 12 x3 fun v65 => bI (f_X10_act N S40 v53 v59 v65) fun v66 S66 => (f_X10_perform_26 j22 N) (x3 + 1) S66 else rI x3 S40))
def f_X10_perform (N : Nat) (S : S2) (a1 : Int) : Option (Int × S2) := bI (f_X10_hasScript N S a1) fun v2 S2 => cI v2 0 (if v2 = 0 then rI (-1) S2 else bI (f_X10_noTrace N S2) fun v9 S9 => cI v9 0 (if v9 = 0 then aR 4 a1 fun j22 => (f_X10_perform_26 j22 N) 0 S9 else rI (-1) S9))
abbrev rmX10_perform : Room := { frames := 5, cells := 0, slots := 0, locals := 124 }
theorem hd_X10_perform : yX10_perform.cls ≠ "java/lang/invoke/MethodHandle" ∧ yX10_perform.cls ≠ "java/lang/invoke/VarHandle" ∧ (parseMethodDescriptor yX10_perform.desc).map (fun d => d.parameters.length) = some 1 := by decide +kernel
set_option maxRecDepth 100000 in
set_option maxHeartbeats 4000000 in
theorem w_X10_perform_26 {p : Program} (l : Launch) {e : Env} {s : State} {m : MethodId} {args : Array Value} {below : List Frame} {meth : Method} {c : Code} {X : XT} (hinj : XInj X nC) (hZ : ZOK (Zc X)) (C : CX p s m args meth c cX10_perform 4 RX10 (some .int) X nC (Zc X)) (out : Int × S2) (j22 : Nat) (hj22 : j22 < 4) : ∀ (N : Nat), ∀ (x3 : Int) (S : S2) (H : Heap) (locs : List Loc) (ls : Array Slot), f_X10_perform_26 j22 N x3 S = some out → WH X shC nC s S H locs → lv_has ls 4 [(0, .ref (X.2.2 0)), (2, .ref (X.2.2 ((fun j => 32 + 4 * j) j22))), (3, .int (iz x3))] → W p l e rmX10_perform s m args below meth c H locs 0 0 (QI X shC nC s args below out) (F0 m 26 ls []) := by
  intro N
  induction N with
  | zero => intro x3 S H locs ls hf hw hl; cases hf
  | succ N ih =>
    intro x3 S H locs ls hf hw hl
    rw [f_X10_perform_26.eq_2] at hf
    refine lv_iload_n C.1.1 C.1.2.1 dX10_perform_26 rfl (lv_at hl 2 rfl) ?_
    refine lv_aload_n C.1.1 C.1.2.1 dX10_perform_27 rfl (lv_at hl 1 rfl) ?_
    refine r_getI (k := 0) C hw (is7_s (is7_el hj22)) (is7_l (is7_el hj22)) cO7 rfl (by decide) tw2_4 rfl dX10_perform_28 hf (fun v28 hf => ?_)
    refine r_icmp_ge C (tgt := 76) dX10_perform_31 (by decide) hf (fun hf => ?_) (fun hf => ?_)
    · refine lv_iload_n C.1.1 C.1.2.1 dX10_perform_76 rfl (lv_at hl 2 rfl) ?_
      exact r_retI C hw dX10_perform_77 hf
    · refine lv_aload_n C.1.1 C.1.2.1 dX10_perform_34 rfl (lv_at hl 1 rfl) ?_
      refine lv_iload_n C.1.1 C.1.2.1 dX10_perform_35 rfl (lv_at hl 2 rfl) ?_
      refine lv_aload_n C.1.1 C.1.2.1 dX10_perform_36 rfl (lv_at hl 0 rfl) ?_
      refine r_getR (k := 2) C hw shC_0 ltC_0 cO10 rfl (by decide) tw2_48 rfl dX10_perform_37 ?_
      refine r_callI (As := [.int (iz x3), .ref (X.2.2 4)]) (rest := []) (rm := rmX7_refusalOf) C hw (is7_s (is7_el hj22)) (is7_l (is7_el hj22)) cO7 tw5_4 tw5_5 tw5_6 tw1_9 tw5_7 hd_X7_refusalOf rfl ⟨⟨rfl, rfl⟩, Nat.le_of_ble_eq_true rfl, Nat.le_of_ble_eq_true rfl⟩ hl.1 rfl (Nat.le_of_ble_eq_true rfl) dX10_perform_40 hf (fun o ho => c_X7_refusalOf l X hinj hZ N S ((fun j => 32 + 4 * j) j22) x3 4 (is7_el hj22) is0_at4 o ho) (fun v40 S40 H locs hf hw => ?_)
      refine r_iconst (v := (-1)) C dX10_perform_43 ?_
      refine r_icmp_ne C (tgt := 76) dX10_perform_44 (by decide) hf (fun hf => ?_) (fun hf => ?_)
      · refine lv_iload_n C.1.1 C.1.2.1 dX10_perform_76 rfl (lv_at hl 2 rfl) ?_
        exact r_retI C hw dX10_perform_77 hf
      · refine lv_aload_n C.1.1 C.1.2.1 dX10_perform_47 rfl (lv_at hl 0 rfl) ?_
        refine lv_aload_n C.1.1 C.1.2.1 dX10_perform_48 rfl (lv_at hl 1 rfl) ?_
        refine r_getR (k := 1) C hw (is7_s (is7_el hj22)) (is7_l (is7_el hj22)) cO7 rfl (by decide) tw2_6 rfl dX10_perform_49 ?_
        refine lv_iload_n C.1.1 C.1.2.1 dX10_perform_52 rfl (lv_at hl 2 rfl) ?_
        refine r_iald C hw (is7_s1 (is7_el hj22)) (is7_l1 (is7_el hj22)) (Nat.le_of_ble_eq_true rfl) dX10_perform_53 hf (fun v53 hf => ?_)
        refine lv_aload_n C.1.1 C.1.2.1 dX10_perform_54 rfl (lv_at hl 1 rfl) ?_
        refine r_getR (k := 2) C hw (is7_s (is7_el hj22)) (is7_l (is7_el hj22)) cO7 rfl (by decide) tw2_8 rfl dX10_perform_55 ?_
        refine lv_iload_n C.1.1 C.1.2.1 dX10_perform_58 rfl (lv_at hl 2 rfl) ?_
        refine r_iald C hw (is7_s2 (is7_el hj22)) (is7_l2 (is7_el hj22)) (Nat.le_of_ble_eq_true rfl) dX10_perform_59 hf (fun v59 hf => ?_)
        refine lv_aload_n C.1.1 C.1.2.1 dX10_perform_60 rfl (lv_at hl 1 rfl) ?_
        refine r_getR (k := 3) C hw (is7_s (is7_el hj22)) (is7_l (is7_el hj22)) cO7 rfl (by decide) tw2_10 rfl dX10_perform_61 ?_
        refine lv_iload_n C.1.1 C.1.2.1 dX10_perform_64 rfl (lv_at hl 2 rfl) ?_
        refine r_iald C hw (is7_s3 (is7_el hj22)) (is7_l3 (is7_el hj22)) (Nat.le_of_ble_eq_true rfl) dX10_perform_65 hf (fun v65 hf => ?_)
        refine r_callI (As := [.int (iz v53), .int (iz v59), .int (iz v65)]) (rest := []) (rm := rmX10_act) C hw shC_0 ltC_0 cO10 tw4_2 tw4_4 tp_27 tw1_1 tw4_5 hd_X10_act rfl ⟨⟨rfl, rfl⟩, Nat.le_of_ble_eq_true rfl, Nat.le_of_ble_eq_true rfl⟩ hl.1 rfl (Nat.le_of_ble_eq_true rfl) dX10_perform_66 hf (fun o ho => c_X10_act l X hinj hZ N S40 v53 v59 v65 o ho) (fun v66 S66 H locs hf hw => ?_)
        refine lv_pop C.1.1 C.1.2.1 dX10_perform_69 rfl ?_
        refine lv_iinc (v := iz (x3 + 1)) (lv' := [(3, .int (iz (x3 + 1))), (0, .ref (X.2.2 0)), (2, .ref (X.2.2 ((fun j => 32 + 4 * j) j22)))]) C.1.1 C.1.2.1 dX10_perform_70 hl (k := 2) rfl (iz_add _ _) (by decide) rfl (fun ls hl => ?_)
        refine lv_goto (tgt := 26) C.1.1 C.1.2.1 dX10_perform_73 (by decide) ?_
        exact ih (x3 + 1) S66 H locs ls hf hw (lv_sub hl [1, 2, 0] rfl)
set_option maxRecDepth 100000 in
set_option maxHeartbeats 4000000 in
theorem c_X10_perform (l : Launch) (X : XT) (hinj : XInj X nC) (hZ : ZOK (Zc X)) (N : Nat) (S : S2) (a1 : Int) (out : Int × S2) (hf : f_X10_perform N S a1 = some out) : MI l X shC nC (Zc X) yX10_perform cX10_perform 4 (some .int) rmX10_perform [.ref (X.2.2 0), .int (iz a1)] S out := by
  refine met_I (own := RX10) (by decide) rfl hinj hZ (Nat.le_of_ble_eq_true rfl) (fun p e s m args below meth c C ls H locs hw hl => ?_)
  unfold f_X10_perform at hf
  have hl : lv_has ls 4 [(0, .ref (X.2.2 0)), (1, .int (iz a1))] := hl
  refine lv_aload_n C.1.1 C.1.2.1 dX10_perform_0 rfl (lv_at hl 0 rfl) ?_
  refine lv_iload_n C.1.1 C.1.2.1 dX10_perform_1 rfl (lv_at hl 1 rfl) ?_
  refine r_callI (As := [.int (iz a1)]) (rest := []) (rm := rmX10_hasScript) C hw shC_0 ltC_0 cO10 tw4_230 tw4_232 tp_39 tw1_1 tw4_233 hd_X10_hasScript rfl ⟨⟨rfl, rfl⟩, Nat.le_of_ble_eq_true rfl, Nat.le_of_ble_eq_true rfl⟩ hl.1 rfl (Nat.le_of_ble_eq_true rfl) dX10_perform_2 hf (fun o ho => c_X10_hasScript l X hinj hZ N S a1 o ho) (fun v2 S2 H locs hf hw => ?_)
  refine r_if_eq C (tgt := 15) dX10_perform_5 (by decide) hf (fun hf => ?_) (fun hf => ?_)
  · refine r_iconst (v := (-1)) C dX10_perform_15 ?_
    exact r_retI C hw dX10_perform_16 hf
  · refine lv_aload_n C.1.1 C.1.2.1 dX10_perform_8 rfl (lv_at hl 0 rfl) ?_
    refine r_callI (As := []) (rest := []) (rm := rmX10_noTrace) C hw shC_0 ltC_0 cO10 tw3_133 tw3_135 tp_22 tw1_1 tw3_136 hd_X10_noTrace rfl ⟨⟨rfl, rfl⟩, Nat.le_of_ble_eq_true rfl, Nat.le_of_ble_eq_true rfl⟩ hl.1 rfl (Nat.le_of_ble_eq_true rfl) dX10_perform_9 hf (fun o ho => c_X10_noTrace l X hinj hZ N S2 o ho) (fun v9 S9 H locs hf hw => ?_)
    refine r_if_eq C (tgt := 17) dX10_perform_12 (by decide) hf (fun hf => ?_) (fun hf => ?_)
    · refine lv_aload_n C.1.1 C.1.2.1 dX10_perform_17 rfl (lv_at hl 0 rfl) ?_
      refine r_getR (k := 7) C hw shC_0 ltC_0 cO10 rfl (by decide) tw2_53 rfl dX10_perform_18 ?_
      refine lv_iload_n C.1.1 C.1.2.1 dX10_perform_21 rfl (lv_at hl 1 rfl) ?_
      refine r_aald C hw shC_31 rfl ltC_31 (Nat.le_of_ble_eq_true rfl) dX10_perform_22 hf (fun j22 hj22 hf => ?_)
      refine lv_astore_n (lv' := [(2, .ref (X.2.2 ((fun j => 32 + 4 * j) j22))), (0, .ref (X.2.2 0)), (1, .int (iz a1))]) C.1.1 C.1.2.1 dX10_perform_23 rfl hl (by decide) rfl (fun ls hl => ?_)
      refine r_iconst (v := 0) C dX10_perform_24 ?_
      refine lv_istore_n (lv' := [(3, .int (iz 0)), (2, .ref (X.2.2 ((fun j => 32 + 4 * j) j22))), (0, .ref (X.2.2 0)), (1, .int (iz a1))]) C.1.1 C.1.2.1 dX10_perform_25 rfl hl (by decide) rfl (fun ls hl => ?_)
      exact (w_X10_perform_26 l hinj hZ C out j22 hj22 N) 0 S9 H locs ls hf hw (lv_sub hl [2, 1, 0] rfl)
    · refine r_iconst (v := (-1)) C dX10_perform_15 ?_
      exact r_retI C hw dX10_perform_16 hf
def f_X10_back (N : Nat) (S : S2) : Option (Int × S2) := gI S 48 1 fun v4 => cI v4 0 (if v4 = 0 then rI (-1) S else bV (f_X0_copyFrom N S 4 48) fun S20 => bV (f_X4_copyFrom N S20 27 50) fun S31 => bV (f_X2_forget N S31 25) fun S38 => bV (f_X5_find N S38 6 4) fun S49 => gI S49 6 1 fun v56 => rI v56 S49)
abbrev rmX10_back : Room := { frames := 4, cells := 0, slots := 0, locals := 93 }
theorem hd_X10_back : yX10_back.cls ≠ "java/lang/invoke/MethodHandle" ∧ yX10_back.cls ≠ "java/lang/invoke/VarHandle" ∧ (parseMethodDescriptor yX10_back.desc).map (fun d => d.parameters.length) = some 0 := by decide +kernel
set_option maxRecDepth 100000 in
set_option maxHeartbeats 4000000 in
theorem c_X10_back (l : Launch) (X : XT) (hinj : XInj X nC) (hZ : ZOK (Zc X)) (N : Nat) (S : S2) (out : Int × S2) (hf : f_X10_back N S = some out) : MI l X shC nC (Zc X) yX10_back cX10_back 1 (some .int) rmX10_back [.ref (X.2.2 0)] S out := by
  refine met_I (own := RX10) (by decide) rfl hinj hZ (Nat.le_of_ble_eq_true rfl) (fun p e s m args below meth c C ls H locs hw hl => ?_)
  unfold f_X10_back at hf
  have hl : lv_has ls 1 [(0, .ref (X.2.2 0))] := hl
  refine lv_aload_n C.1.1 C.1.2.1 dX10_back_0 rfl (lv_at hl 0 rfl) ?_
  refine r_getR (k := 11) C hw shC_0 ltC_0 cO10 rfl (by decide) tw2_57 rfl dX10_back_1 ?_
  refine r_getI (k := 1) C hw (is0_s is0_at48) (is0_l is0_at48) cO0 rfl (by decide) tw1_92 rfl dX10_back_4 hf (fun v4 hf => ?_)
  refine r_if_ne C (tgt := 12) dX10_back_7 (by decide) hf (fun hf => ?_) (fun hf => ?_)
  · refine lv_aload_n C.1.1 C.1.2.1 dX10_back_12 rfl (lv_at hl 0 rfl) ?_
    refine r_getR (k := 2) C hw shC_0 ltC_0 cO10 rfl (by decide) tw2_48 rfl dX10_back_13 ?_
    refine lv_aload_n C.1.1 C.1.2.1 dX10_back_16 rfl (lv_at hl 0 rfl) ?_
    refine r_getR (k := 11) C hw shC_0 ltC_0 cO10 rfl (by decide) tw2_57 rfl dX10_back_17 ?_
    refine r_callV (As := [.ref (X.2.2 48)]) (rest := []) (rm := rmX0_copyFrom) C hw (is0_s is0_at4) (is0_l is0_at4) cO0 tw3_50 tw3_51 tw3_52 tw1_4 tw3_53 hd_X0_copyFrom rfl ⟨⟨rfl, rfl⟩, Nat.le_of_ble_eq_true rfl, Nat.le_of_ble_eq_true rfl⟩ hl.1 rfl (Nat.le_of_ble_eq_true rfl) dX10_back_20 hf (fun o ho => c_X0_copyFrom l X hinj hZ N S 4 48 is0_at4 is0_at48 o ho) (fun S20 H locs hf hw => ?_)
    refine lv_aload_n C.1.1 C.1.2.1 dX10_back_23 rfl (lv_at hl 0 rfl) ?_
    refine r_getR (k := 6) C hw shC_0 ltC_0 cO10 rfl (by decide) tw2_52 rfl dX10_back_24 ?_
    refine lv_aload_n C.1.1 C.1.2.1 dX10_back_27 rfl (lv_at hl 0 rfl) ?_
    refine r_getR (k := 12) C hw shC_0 ltC_0 cO10 rfl (by decide) tw2_58 rfl dX10_back_28 ?_
    refine r_callV (As := [.ref (X.2.2 50)]) (rest := []) (rm := rmX4_copyFrom) C hw (is4_s is4_at27) (is4_l is4_at27) cO4 tw5_42 tw5_43 tw5_44 tw1_8 tw5_45 hd_X4_copyFrom rfl ⟨⟨rfl, rfl⟩, Nat.le_of_ble_eq_true rfl, Nat.le_of_ble_eq_true rfl⟩ hl.1 rfl (Nat.le_of_ble_eq_true rfl) dX10_back_31 hf (fun o ho => c_X4_copyFrom l X hinj hZ N S20 27 50 is4_at27 is4_at50 o ho) (fun S31 H locs hf hw => ?_)
    refine lv_aload_n C.1.1 C.1.2.1 dX10_back_34 rfl (lv_at hl 0 rfl) ?_
    refine r_getR (k := 5) C hw shC_0 ltC_0 cO10 rfl (by decide) tw2_51 rfl dX10_back_35 ?_
    refine r_callV (As := []) (rest := []) (rm := rmX2_forget) C hw (is2_s is2_at25) (is2_l is2_at25) cO2 tw3_112 tw3_113 tw3_114 tw1_7 tw3_115 hd_X2_forget rfl ⟨⟨rfl, rfl⟩, Nat.le_of_ble_eq_true rfl, Nat.le_of_ble_eq_true rfl⟩ hl.1 rfl (Nat.le_of_ble_eq_true rfl) dX10_back_38 hf (fun o ho => c_X2_forget l X hinj hZ N S31 25 is2_at25 o ho) (fun S38 H locs hf hw => ?_)
    refine lv_aload_n C.1.1 C.1.2.1 dX10_back_41 rfl (lv_at hl 0 rfl) ?_
    refine r_getR (k := 3) C hw shC_0 ltC_0 cO10 rfl (by decide) tw2_49 rfl dX10_back_42 ?_
    refine lv_aload_n C.1.1 C.1.2.1 dX10_back_45 rfl (lv_at hl 0 rfl) ?_
    refine r_getR (k := 2) C hw shC_0 ltC_0 cO10 rfl (by decide) tw2_48 rfl dX10_back_46 ?_
    refine r_callV (As := [.ref (X.2.2 4)]) (rest := []) (rm := rmX5_find) C hw (is5_s is5_at6) (is5_l is5_at6) cO5 tw3_62 tw3_63 tw3_64 tw1_5 tw3_65 hd_X5_find rfl ⟨⟨rfl, rfl⟩, Nat.le_of_ble_eq_true rfl, Nat.le_of_ble_eq_true rfl⟩ hl.1 rfl (Nat.le_of_ble_eq_true rfl) dX10_back_49 hf (fun o ho => c_X5_find l X hinj hZ N S38 6 4 is5_at6 is0_at4 o ho) (fun S49 H locs hf hw => ?_)
    refine lv_aload_n C.1.1 C.1.2.1 dX10_back_52 rfl (lv_at hl 0 rfl) ?_
    refine r_getR (k := 3) C hw shC_0 ltC_0 cO10 rfl (by decide) tw2_49 rfl dX10_back_53 ?_
    refine r_getI (k := 1) C hw (is5_s is5_at6) (is5_l is5_at6) cO5 rfl (by decide) tw1_115 rfl dX10_back_56 hf (fun v56 hf => ?_)
    exact r_retI C hw dX10_back_59 hf
  · refine r_iconst (v := (-1)) C dX10_back_10 ?_
    exact r_retI C hw dX10_back_11 hf
def f_X10_ask_43 (N : Nat) (x1 : Int) (x2 : Int) (x3 : Int) (x4 : Int) (S : S2) : Option (Int × S2) := cI x4 (-1) (if x4 = (-1) then bI (f_X10_act N S x1 x2 x3) fun v53 S53 => rI v53 S53 else rI (-1) S)
def f_X10_ask_27 (N : Nat) (x1 : Int) (x2 : Int) (x3 : Int) (x4 : Int) (S : S2) : Option (Int × S2) := cI x4 1 (if x4 = 1 then gI S 0 10 fun v35 => uI S 0 10 (v35 + 1) fun S40 => (f_X10_ask_43 N) x1 x2 x3 x4 S40 else (f_X10_ask_43 N) x1 x2 x3 x4 S)
def f_X10_ask (N : Nat) (S : S2) (a1 : Int) (a2 : Int) (a3 : Int) : Option (Int × S2) := bI (f_X0_refusal N S 4 a1 a2 a3) fun v7 S7 => cI v7 0 (if v7 = 0 then gI S7 0 9 fun v19 => uI S7 0 9 (v19 + 1) fun S24 => (f_X10_ask_27 N) a1 a2 a3 v7 S24 else (f_X10_ask_27 N) a1 a2 a3 v7 S7)
abbrev rmX10_ask : Room := { frames := 5, cells := 0, slots := 0, locals := 124 }
theorem hd_X10_ask : yX10_ask.cls ≠ "java/lang/invoke/MethodHandle" ∧ yX10_ask.cls ≠ "java/lang/invoke/VarHandle" ∧ (parseMethodDescriptor yX10_ask.desc).map (fun d => d.parameters.length) = some 3 := by decide +kernel
set_option maxRecDepth 100000 in
set_option maxHeartbeats 4000000 in
theorem w_X10_ask_43 {p : Program} (l : Launch) {e : Env} {s : State} {m : MethodId} {args : Array Value} {below : List Frame} {meth : Method} {c : Code} {X : XT} (hinj : XInj X nC) (hZ : ZOK (Zc X)) (C : CX p s m args meth c cX10_ask 5 RX10 (some .int) X nC (Zc X)) (out : Int × S2) : ∀ (N : Nat), ∀ (x1 : Int) (x2 : Int) (x3 : Int) (x4 : Int) (S : S2) (H : Heap) (locs : List Loc) (ls : Array Slot), f_X10_ask_43 N x1 x2 x3 x4 S = some out → WH X shC nC s S H locs → lv_has ls 5 [(0, .ref (X.2.2 0)), (1, .int (iz x1)), (2, .int (iz x2)), (3, .int (iz x3)), (4, .int (iz x4))] → W p l e rmX10_ask s m args below meth c H locs 0 0 (QI X shC nC s args below out) (F0 m 43 ls []) := by
  intro N x1 x2 x3 x4 S H locs ls hf hw hl
  unfold f_X10_ask_43 at hf
  refine lv_iload C.1.1 C.1.2.1 dX10_ask_43 (lv_at hl 4 rfl) ?_
  refine r_iconst (v := (-1)) C dX10_ask_45 ?_
  refine r_icmp_ne C (tgt := 59) dX10_ask_46 (by decide) hf (fun hf => ?_) (fun hf => ?_)
  · refine r_iconst (v := (-1)) C dX10_ask_59 ?_
    exact r_retI C hw dX10_ask_60 hf
  · refine lv_aload_n C.1.1 C.1.2.1 dX10_ask_49 rfl (lv_at hl 0 rfl) ?_
    refine lv_iload_n C.1.1 C.1.2.1 dX10_ask_50 rfl (lv_at hl 1 rfl) ?_
    refine lv_iload_n C.1.1 C.1.2.1 dX10_ask_51 rfl (lv_at hl 2 rfl) ?_
    refine lv_iload_n C.1.1 C.1.2.1 dX10_ask_52 rfl (lv_at hl 3 rfl) ?_
    refine r_callI (As := [.int (iz x1), .int (iz x2), .int (iz x3)]) (rest := []) (rm := rmX10_act) C hw shC_0 ltC_0 cO10 tw4_2 tw4_4 tp_27 tw1_1 tw4_5 hd_X10_act rfl ⟨⟨rfl, rfl⟩, Nat.le_of_ble_eq_true rfl, Nat.le_of_ble_eq_true rfl⟩ hl.1 rfl (Nat.le_of_ble_eq_true rfl) dX10_ask_53 hf (fun o ho => c_X10_act l X hinj hZ N S x1 x2 x3 o ho) (fun v53 S53 H locs hf hw => ?_)
    refine lv_goto (tgt := 60) C.1.1 C.1.2.1 dX10_ask_56 (by decide) ?_
    exact r_retI C hw dX10_ask_60 hf
set_option maxRecDepth 100000 in
set_option maxHeartbeats 4000000 in
theorem w_X10_ask_27 {p : Program} (l : Launch) {e : Env} {s : State} {m : MethodId} {args : Array Value} {below : List Frame} {meth : Method} {c : Code} {X : XT} (hinj : XInj X nC) (hZ : ZOK (Zc X)) (C : CX p s m args meth c cX10_ask 5 RX10 (some .int) X nC (Zc X)) (out : Int × S2) : ∀ (N : Nat), ∀ (x1 : Int) (x2 : Int) (x3 : Int) (x4 : Int) (S : S2) (H : Heap) (locs : List Loc) (ls : Array Slot), f_X10_ask_27 N x1 x2 x3 x4 S = some out → WH X shC nC s S H locs → lv_has ls 5 [(0, .ref (X.2.2 0)), (1, .int (iz x1)), (2, .int (iz x2)), (3, .int (iz x3)), (4, .int (iz x4))] → W p l e rmX10_ask s m args below meth c H locs 0 0 (QI X shC nC s args below out) (F0 m 27 ls []) := by
  intro N x1 x2 x3 x4 S H locs ls hf hw hl
  unfold f_X10_ask_27 at hf
  refine lv_iload C.1.1 C.1.2.1 dX10_ask_27 (lv_at hl 4 rfl) ?_
  refine r_iconst (v := 1) C dX10_ask_29 ?_
  refine r_icmp_ne C (tgt := 43) dX10_ask_30 (by decide) hf (fun hf => ?_) (fun hf => ?_)
  · exact (w_X10_ask_43 l hinj hZ C out N) x1 x2 x3 x4 S H locs ls hf hw (lv_sub hl [0, 1, 2, 3, 4] rfl)
  · refine lv_aload_n C.1.1 C.1.2.1 dX10_ask_33 rfl (lv_at hl 0 rfl) ?_
    refine lv_dup C.1.1 C.1.2.1 dX10_ask_34 rfl ?_
    refine r_getI (k := 10) C hw shC_0 ltC_0 cO10 rfl (by decide) tw2_56 rfl dX10_ask_35 hf (fun v35 hf => ?_)
    refine r_iconst (v := 1) C dX10_ask_38 ?_
    refine r_iadd C dX10_ask_39 ?_
    refine r_putI (k := 10) C hw shC_0 ltC_0 cO10 rfl (by decide) tw2_56 rfl rfl rfl dX10_ask_40 hf (fun S40 H locs hf hw => ?_)
    exact (w_X10_ask_43 l hinj hZ C out N) x1 x2 x3 x4 S40 H locs ls hf hw (lv_sub hl [0, 1, 2, 3, 4] rfl)
set_option maxRecDepth 100000 in
set_option maxHeartbeats 4000000 in
theorem c_X10_ask (l : Launch) (X : XT) (hinj : XInj X nC) (hZ : ZOK (Zc X)) (N : Nat) (S : S2) (a1 : Int) (a2 : Int) (a3 : Int) (out : Int × S2) (hf : f_X10_ask N S a1 a2 a3 = some out) : MI l X shC nC (Zc X) yX10_ask cX10_ask 5 (some .int) rmX10_ask [.ref (X.2.2 0), .int (iz a1), .int (iz a2), .int (iz a3)] S out := by
  refine met_I (own := RX10) (by decide) rfl hinj hZ (Nat.le_of_ble_eq_true rfl) (fun p e s m args below meth c C ls H locs hw hl => ?_)
  unfold f_X10_ask at hf
  have hl : lv_has ls 5 [(0, .ref (X.2.2 0)), (1, .int (iz a1)), (2, .int (iz a2)), (3, .int (iz a3))] := hl
  refine lv_aload_n C.1.1 C.1.2.1 dX10_ask_0 rfl (lv_at hl 0 rfl) ?_
  refine r_getR (k := 2) C hw shC_0 ltC_0 cO10 rfl (by decide) tw2_48 rfl dX10_ask_1 ?_
  refine lv_iload_n C.1.1 C.1.2.1 dX10_ask_4 rfl (lv_at hl 1 rfl) ?_
  refine lv_iload_n C.1.1 C.1.2.1 dX10_ask_5 rfl (lv_at hl 2 rfl) ?_
  refine lv_iload_n C.1.1 C.1.2.1 dX10_ask_6 rfl (lv_at hl 3 rfl) ?_
  refine r_callI (As := [.int (iz a1), .int (iz a2), .int (iz a3)]) (rest := []) (rm := rmX0_refusal) C hw (is0_s is0_at4) (is0_l is0_at4) cO0 tw3_234 tw3_235 tw3_236 tw1_4 tw3_237 hd_X0_refusal rfl ⟨⟨rfl, rfl⟩, Nat.le_of_ble_eq_true rfl, Nat.le_of_ble_eq_true rfl⟩ hl.1 rfl (Nat.le_of_ble_eq_true rfl) dX10_ask_7 hf (fun o ho => c_X0_refusal l X hinj hZ N S 4 a1 a2 a3 is0_at4 o ho) (fun v7 S7 H locs hf hw => ?_)
  refine lv_istore (lv' := [(4, .int (iz v7)), (0, .ref (X.2.2 0)), (1, .int (iz a1)), (2, .int (iz a2)), (3, .int (iz a3))]) C.1.1 C.1.2.1 dX10_ask_10 hl (by decide) rfl (fun ls hl => ?_)
  refine lv_iload C.1.1 C.1.2.1 dX10_ask_12 (lv_at hl 0 rfl) ?_
  refine r_if_ne C (tgt := 27) dX10_ask_14 (by decide) hf (fun hf => ?_) (fun hf => ?_)
  · exact (w_X10_ask_27 l hinj hZ C out N) a1 a2 a3 v7 S7 H locs ls hf hw (lv_sub hl [1, 2, 3, 4, 0] rfl)
  · refine lv_aload_n C.1.1 C.1.2.1 dX10_ask_17 rfl (lv_at hl 1 rfl) ?_
    refine lv_dup C.1.1 C.1.2.1 dX10_ask_18 rfl ?_
    refine r_getI (k := 9) C hw shC_0 ltC_0 cO10 rfl (by decide) tw2_55 rfl dX10_ask_19 hf (fun v19 hf => ?_)
    refine r_iconst (v := 1) C dX10_ask_22 ?_
    refine r_iadd C dX10_ask_23 ?_
    refine r_putI (k := 9) C hw shC_0 ltC_0 cO10 rfl (by decide) tw2_55 rfl rfl rfl dX10_ask_24 hf (fun S24 H locs hf hw => ?_)
    exact (w_X10_ask_27 l hinj hZ C out N) a1 a2 a3 v7 S24 H locs ls hf hw (lv_sub hl [1, 2, 3, 4, 0] rfl)
def f_X10_ways_47 (N : Nat) (S : S2) : Option (Int × S2) := gI S 6 1 fun v51 => rI v51 S
def f_X10_ways_31 (k47 : S2 → Option (Int × S2)) : Nat → Int → Int → S2 → Option (Int × S2)
  | 0, _, _, _ => none
  | N + 1, x1, x4, S => cI x4 x1 (if x1 ≤ x4 then k47 S else bV (f_X10_drawnAct N S) fun S38 => (f_X10_ways_31 k47 N) x1 (x4 + 1) S38)
def f_X10_ways (N : Nat) (S : S2) (a1 : Int) (a2 : Int64) : Option (Int × S2) := bI (f_X10_noTrace N S) fun v1 S1 => cI v1 0 (if v1 = 0 then cI a1 1 (if a1 < 1 then rI (-1) S1 else cI a1 40 (if a1 ≤ 40 then uL S1 79 0 a2 fun S25 => (f_X10_ways_31 (f_X10_ways_47 N) N) a1 0 S25 else rI (-1) S1)) else rI (-1) S1)
abbrev rmX10_ways : Room := { frames := 6, cells := 0, slots := 0, locals := 146 }
theorem hd_X10_ways : yX10_ways.cls ≠ "java/lang/invoke/MethodHandle" ∧ yX10_ways.cls ≠ "java/lang/invoke/VarHandle" ∧ (parseMethodDescriptor yX10_ways.desc).map (fun d => d.parameters.length) = some 2 := by decide +kernel
set_option maxRecDepth 100000 in
set_option maxHeartbeats 4000000 in
theorem w_X10_ways_47 {p : Program} (l : Launch) {e : Env} {s : State} {m : MethodId} {args : Array Value} {below : List Frame} {meth : Method} {c : Code} {X : XT} (hinj : XInj X nC) (hZ : ZOK (Zc X)) (C : CX p s m args meth c cX10_ways 5 RX10 (some .int) X nC (Zc X)) (out : Int × S2) : ∀ (N : Nat), ∀ (S : S2) (H : Heap) (locs : List Loc) (ls : Array Slot), f_X10_ways_47 N S = some out → WH X shC nC s S H locs → lv_has ls 5 [(0, .ref (X.2.2 0))] → W p l e rmX10_ways s m args below meth c H locs 0 0 (QI X shC nC s args below out) (F0 m 47 ls []) := by
  intro N S H locs ls hf hw hl
  unfold f_X10_ways_47 at hf
  refine lv_aload_n C.1.1 C.1.2.1 dX10_ways_47 rfl (lv_at hl 0 rfl) ?_
  refine r_getR (k := 3) C hw shC_0 ltC_0 cO10 rfl (by decide) tw2_49 rfl dX10_ways_48 ?_
  refine r_getI (k := 1) C hw (is5_s is5_at6) (is5_l is5_at6) cO5 rfl (by decide) tw1_115 rfl dX10_ways_51 hf (fun v51 hf => ?_)
  exact r_retI C hw dX10_ways_54 hf
set_option maxRecDepth 100000 in
set_option maxHeartbeats 4000000 in
theorem w_X10_ways_31 {p : Program} (l : Launch) {e : Env} {s : State} {m : MethodId} {args : Array Value} {below : List Frame} {meth : Method} {c : Code} {X : XT} (hinj : XInj X nC) (hZ : ZOK (Zc X)) (C : CX p s m args meth c cX10_ways 5 RX10 (some .int) X nC (Zc X)) (out : Int × S2) (k47 : S2 → Option (Int × S2)) (hk47 : ∀ (S : S2) (H : Heap) (locs : List Loc) (ls : Array Slot), k47 S = some out → WH X shC nC s S H locs → lv_has ls 5 [(0, .ref (X.2.2 0))] → W p l e rmX10_ways s m args below meth c H locs 0 0 (QI X shC nC s args below out) (F0 m 47 ls [])) : ∀ (N : Nat), ∀ (x1 : Int) (x4 : Int) (S : S2) (H : Heap) (locs : List Loc) (ls : Array Slot), f_X10_ways_31 k47 N x1 x4 S = some out → WH X shC nC s S H locs → lv_has ls 5 [(0, .ref (X.2.2 0)), (1, .int (iz x1)), (4, .int (iz x4))] → W p l e rmX10_ways s m args below meth c H locs 0 0 (QI X shC nC s args below out) (F0 m 31 ls []) := by
  intro N
  induction N with
  | zero => intro x1 x4 S H locs ls hf hw hl; cases hf
  | succ N ih =>
    intro x1 x4 S H locs ls hf hw hl
    rw [f_X10_ways_31.eq_2] at hf
    refine lv_iload C.1.1 C.1.2.1 dX10_ways_31 (lv_at hl 2 rfl) ?_
    refine lv_iload_n C.1.1 C.1.2.1 dX10_ways_33 rfl (lv_at hl 1 rfl) ?_
    refine r_icmp_ge C (tgt := 47) dX10_ways_34 (by decide) hf (fun hf => ?_) (fun hf => ?_)
    · exact hk47 S H locs ls hf hw (lv_sub hl [0] rfl)
    · refine lv_aload_n C.1.1 C.1.2.1 dX10_ways_37 rfl (lv_at hl 0 rfl) ?_
      refine r_callV (As := []) (rest := []) (rm := rmX10_drawnAct) C hw shC_0 ltC_0 cO10 tw4_111 tw4_113 tp_37 tw1_1 tw4_114 hd_X10_drawnAct rfl ⟨⟨rfl, rfl⟩, Nat.le_of_ble_eq_true rfl, Nat.le_of_ble_eq_true rfl⟩ hl.1 rfl (Nat.le_of_ble_eq_true rfl) dX10_ways_38 hf (fun o ho => c_X10_drawnAct l X hinj hZ N S o ho) (fun S38 H locs hf hw => ?_)
      refine lv_iinc (v := iz (x4 + 1)) (lv' := [(4, .int (iz (x4 + 1))), (0, .ref (X.2.2 0)), (1, .int (iz x1))]) C.1.1 C.1.2.1 dX10_ways_41 hl (k := 2) rfl (iz_add _ _) (by decide) rfl (fun ls hl => ?_)
      refine lv_goto (tgt := 31) C.1.1 C.1.2.1 dX10_ways_44 (by decide) ?_
      exact ih x1 (x4 + 1) S38 H locs ls hf hw (lv_sub hl [1, 2, 0] rfl)
set_option maxRecDepth 100000 in
set_option maxHeartbeats 4000000 in
theorem c_X10_ways (l : Launch) (X : XT) (hinj : XInj X nC) (hZ : ZOK (Zc X)) (N : Nat) (S : S2) (a1 : Int) (a2 : Int64) (out : Int × S2) (hf : f_X10_ways N S a1 a2 = some out) : MI l X shC nC (Zc X) yX10_ways cX10_ways 5 (some .int) rmX10_ways [.ref (X.2.2 0), .int (iz a1), .long a2] S out := by
  refine met_I (own := RX10) (by decide) rfl hinj hZ (Nat.le_of_ble_eq_true rfl) (fun p e s m args below meth c C ls H locs hw hl => ?_)
  unfold f_X10_ways at hf
  have hl : lv_has ls 5 [(0, .ref (X.2.2 0)), (1, .int (iz a1)), (2, .long a2)] := hl
  refine lv_aload_n C.1.1 C.1.2.1 dX10_ways_0 rfl (lv_at hl 0 rfl) ?_
  refine r_callI (As := []) (rest := []) (rm := rmX10_noTrace) C hw shC_0 ltC_0 cO10 tw3_133 tw3_135 tp_22 tw1_1 tw3_136 hd_X10_noTrace rfl ⟨⟨rfl, rfl⟩, Nat.le_of_ble_eq_true rfl, Nat.le_of_ble_eq_true rfl⟩ hl.1 rfl (Nat.le_of_ble_eq_true rfl) dX10_ways_1 hf (fun o ho => c_X10_noTrace l X hinj hZ N S o ho) (fun v1 S1 H locs hf hw => ?_)
  refine r_if_ne C (tgt := 18) dX10_ways_4 (by decide) hf (fun hf => ?_) (fun hf => ?_)
  · refine r_iconst (v := (-1)) C dX10_ways_18 ?_
    exact r_retI C hw dX10_ways_19 hf
  · refine lv_iload_n C.1.1 C.1.2.1 dX10_ways_7 rfl (lv_at hl 1 rfl) ?_
    refine r_iconst (v := 1) C dX10_ways_8 ?_
    refine r_icmp_lt C (tgt := 18) dX10_ways_9 (by decide) hf (fun hf => ?_) (fun hf => ?_)
    · refine r_iconst (v := (-1)) C dX10_ways_18 ?_
      exact r_retI C hw dX10_ways_19 hf
    · refine lv_iload_n C.1.1 C.1.2.1 dX10_ways_12 rfl (lv_at hl 1 rfl) ?_
      refine r_bipush (v := 40) C dX10_ways_13 (by decide) ?_
      refine r_icmp_le C (tgt := 20) dX10_ways_15 (by decide) hf (fun hf => ?_) (fun hf => ?_)
      · refine lv_aload_n C.1.1 C.1.2.1 dX10_ways_20 rfl (lv_at hl 0 rfl) ?_
        refine r_getR (k := 17) C hw shC_0 ltC_0 cO10 rfl (by decide) tw2_63 rfl dX10_ways_21 ?_
        refine lv_lload_n C.1.1 C.1.2.1 dX10_ways_24 rfl (lv_at hl 2 rfl) ?_
        refine r_putL (k := 0) C hw (is1_s is1_at79) (is1_l is1_at79) cO1 rfl (by decide) tw2_27 rfl rfl rfl dX10_ways_25 hf (fun S25 H locs hf hw => ?_)
        refine r_iconst (v := 0) C dX10_ways_28 ?_
        refine lv_istore (lv' := [(4, .int (iz 0)), (0, .ref (X.2.2 0)), (1, .int (iz a1)), (2, .long a2)]) C.1.1 C.1.2.1 dX10_ways_29 hl (by decide) rfl (fun ls hl => ?_)
        exact (w_X10_ways_31 l hinj hZ C out (f_X10_ways_47 N) (w_X10_ways_47 l hinj hZ C out N) N) a1 0 S25 H locs ls hf hw (lv_sub hl [1, 2, 0] rfl)
      · refine r_iconst (v := (-1)) C dX10_ways_18 ?_
        exact r_retI C hw dX10_ways_19 hf
def f_X10_smooth (N : Nat) (S : S2) : Option (Int × S2) := bI (f_X10_ask N S 0 0 0) fun v4 S4 => rI v4 S4
abbrev rmX10_smooth : Room := { frames := 6, cells := 0, slots := 0, locals := 148 }
theorem hd_X10_smooth : yX10_smooth.cls ≠ "java/lang/invoke/MethodHandle" ∧ yX10_smooth.cls ≠ "java/lang/invoke/VarHandle" ∧ (parseMethodDescriptor yX10_smooth.desc).map (fun d => d.parameters.length) = some 0 := by decide +kernel
set_option maxRecDepth 100000 in
set_option maxHeartbeats 4000000 in
theorem c_X10_smooth (l : Launch) (X : XT) (hinj : XInj X nC) (hZ : ZOK (Zc X)) (N : Nat) (S : S2) (out : Int × S2) (hf : f_X10_smooth N S = some out) : MI l X shC nC (Zc X) yX10_smooth cX10_smooth 1 (some .int) rmX10_smooth [.ref (X.2.2 0)] S out := by
  refine met_I (own := RX10) (by decide) rfl hinj hZ (Nat.le_of_ble_eq_true rfl) (fun p e s m args below meth c C ls H locs hw hl => ?_)
  unfold f_X10_smooth at hf
  have hl : lv_has ls 1 [(0, .ref (X.2.2 0))] := hl
  refine lv_aload_n C.1.1 C.1.2.1 dX10_smooth_0 rfl (lv_at hl 0 rfl) ?_
  refine r_iconst (v := 0) C dX10_smooth_1 ?_
  refine r_iconst (v := 0) C dX10_smooth_2 ?_
  refine r_iconst (v := 0) C dX10_smooth_3 ?_
  refine r_callI (As := [.int (iz 0), .int (iz 0), .int (iz 0)]) (rest := []) (rm := rmX10_ask) C hw shC_0 ltC_0 cO10 tw3_230 tw3_232 tp_25 tw1_1 tw3_233 hd_X10_ask rfl ⟨⟨rfl, rfl⟩, Nat.le_of_ble_eq_true rfl, Nat.le_of_ble_eq_true rfl⟩ hl.1 rfl (Nat.le_of_ble_eq_true rfl) dX10_smooth_4 hf (fun o ho => c_X10_ask l X hinj hZ N S 0 0 0 o ho) (fun v4 S4 H locs hf hw => ?_)
  exact r_retI C hw dX10_smooth_7 hf
def f_X10_median (N : Nat) (S : S2) : Option (Int × S2) := bI (f_X10_ask N S 1 0 0) fun v4 S4 => rI v4 S4
abbrev rmX10_median : Room := { frames := 6, cells := 0, slots := 0, locals := 148 }
theorem hd_X10_median : yX10_median.cls ≠ "java/lang/invoke/MethodHandle" ∧ yX10_median.cls ≠ "java/lang/invoke/VarHandle" ∧ (parseMethodDescriptor yX10_median.desc).map (fun d => d.parameters.length) = some 0 := by decide +kernel
set_option maxRecDepth 100000 in
set_option maxHeartbeats 4000000 in
theorem c_X10_median (l : Launch) (X : XT) (hinj : XInj X nC) (hZ : ZOK (Zc X)) (N : Nat) (S : S2) (out : Int × S2) (hf : f_X10_median N S = some out) : MI l X shC nC (Zc X) yX10_median cX10_median 1 (some .int) rmX10_median [.ref (X.2.2 0)] S out := by
  refine met_I (own := RX10) (by decide) rfl hinj hZ (Nat.le_of_ble_eq_true rfl) (fun p e s m args below meth c C ls H locs hw hl => ?_)
  unfold f_X10_median at hf
  have hl : lv_has ls 1 [(0, .ref (X.2.2 0))] := hl
  refine lv_aload_n C.1.1 C.1.2.1 dX10_median_0 rfl (lv_at hl 0 rfl) ?_
  refine r_iconst (v := 1) C dX10_median_1 ?_
  refine r_iconst (v := 0) C dX10_median_2 ?_
  refine r_iconst (v := 0) C dX10_median_3 ?_
  refine r_callI (As := [.int (iz 1), .int (iz 0), .int (iz 0)]) (rest := []) (rm := rmX10_ask) C hw shC_0 ltC_0 cO10 tw3_230 tw3_232 tp_25 tw1_1 tw3_233 hd_X10_ask rfl ⟨⟨rfl, rfl⟩, Nat.le_of_ble_eq_true rfl, Nat.le_of_ble_eq_true rfl⟩ hl.1 rfl (Nat.le_of_ble_eq_true rfl) dX10_median_4 hf (fun o ho => c_X10_ask l X hinj hZ N S 1 0 0 o ho) (fun v4 S4 H locs hf hw => ?_)
  exact r_retI C hw dX10_median_7 hf
def f_X10_flat (N : Nat) (S : S2) : Option (Int × S2) := bI (f_X10_ask N S 2 0 0) fun v4 S4 => rI v4 S4
abbrev rmX10_flat : Room := { frames := 6, cells := 0, slots := 0, locals := 148 }
theorem hd_X10_flat : yX10_flat.cls ≠ "java/lang/invoke/MethodHandle" ∧ yX10_flat.cls ≠ "java/lang/invoke/VarHandle" ∧ (parseMethodDescriptor yX10_flat.desc).map (fun d => d.parameters.length) = some 0 := by decide +kernel
set_option maxRecDepth 100000 in
set_option maxHeartbeats 4000000 in
theorem c_X10_flat (l : Launch) (X : XT) (hinj : XInj X nC) (hZ : ZOK (Zc X)) (N : Nat) (S : S2) (out : Int × S2) (hf : f_X10_flat N S = some out) : MI l X shC nC (Zc X) yX10_flat cX10_flat 1 (some .int) rmX10_flat [.ref (X.2.2 0)] S out := by
  refine met_I (own := RX10) (by decide) rfl hinj hZ (Nat.le_of_ble_eq_true rfl) (fun p e s m args below meth c C ls H locs hw hl => ?_)
  unfold f_X10_flat at hf
  have hl : lv_has ls 1 [(0, .ref (X.2.2 0))] := hl
  refine lv_aload_n C.1.1 C.1.2.1 dX10_flat_0 rfl (lv_at hl 0 rfl) ?_
  refine r_iconst (v := 2) C dX10_flat_1 ?_
  refine r_iconst (v := 0) C dX10_flat_2 ?_
  refine r_iconst (v := 0) C dX10_flat_3 ?_
  refine r_callI (As := [.int (iz 2), .int (iz 0), .int (iz 0)]) (rest := []) (rm := rmX10_ask) C hw shC_0 ltC_0 cO10 tw3_230 tw3_232 tp_25 tw1_1 tw3_233 hd_X10_ask rfl ⟨⟨rfl, rfl⟩, Nat.le_of_ble_eq_true rfl, Nat.le_of_ble_eq_true rfl⟩ hl.1 rfl (Nat.le_of_ble_eq_true rfl) dX10_flat_4 hf (fun o ho => c_X10_ask l X hinj hZ N S 2 0 0 o ho) (fun v4 S4 H locs hf hw => ?_)
  exact r_retI C hw dX10_flat_7 hf
def f_X10_turn (N : Nat) (S : S2) : Option (Int × S2) := bI (f_X10_ask N S 3 0 0) fun v4 S4 => rI v4 S4
abbrev rmX10_turn : Room := { frames := 6, cells := 0, slots := 0, locals := 148 }
theorem hd_X10_turn : yX10_turn.cls ≠ "java/lang/invoke/MethodHandle" ∧ yX10_turn.cls ≠ "java/lang/invoke/VarHandle" ∧ (parseMethodDescriptor yX10_turn.desc).map (fun d => d.parameters.length) = some 0 := by decide +kernel
set_option maxRecDepth 100000 in
set_option maxHeartbeats 4000000 in
theorem c_X10_turn (l : Launch) (X : XT) (hinj : XInj X nC) (hZ : ZOK (Zc X)) (N : Nat) (S : S2) (out : Int × S2) (hf : f_X10_turn N S = some out) : MI l X shC nC (Zc X) yX10_turn cX10_turn 1 (some .int) rmX10_turn [.ref (X.2.2 0)] S out := by
  refine met_I (own := RX10) (by decide) rfl hinj hZ (Nat.le_of_ble_eq_true rfl) (fun p e s m args below meth c C ls H locs hw hl => ?_)
  unfold f_X10_turn at hf
  have hl : lv_has ls 1 [(0, .ref (X.2.2 0))] := hl
  refine lv_aload_n C.1.1 C.1.2.1 dX10_turn_0 rfl (lv_at hl 0 rfl) ?_
  refine r_iconst (v := 3) C dX10_turn_1 ?_
  refine r_iconst (v := 0) C dX10_turn_2 ?_
  refine r_iconst (v := 0) C dX10_turn_3 ?_
  refine r_callI (As := [.int (iz 3), .int (iz 0), .int (iz 0)]) (rest := []) (rm := rmX10_ask) C hw shC_0 ltC_0 cO10 tw3_230 tw3_232 tp_25 tw1_1 tw3_233 hd_X10_ask rfl ⟨⟨rfl, rfl⟩, Nat.le_of_ble_eq_true rfl, Nat.le_of_ble_eq_true rfl⟩ hl.1 rfl (Nat.le_of_ble_eq_true rfl) dX10_turn_4 hf (fun o ho => c_X10_ask l X hinj hZ N S 3 0 0 o ho) (fun v4 S4 H locs hf hw => ?_)
  exact r_retI C hw dX10_turn_7 hf
def f_X10_clip (N : Nat) (S : S2) (a1 : Int) : Option (Int × S2) := bI (f_X10_ask N S 4 a1 0) fun v4 S4 => rI v4 S4
abbrev rmX10_clip : Room := { frames := 6, cells := 0, slots := 0, locals := 148 }
theorem hd_X10_clip : yX10_clip.cls ≠ "java/lang/invoke/MethodHandle" ∧ yX10_clip.cls ≠ "java/lang/invoke/VarHandle" ∧ (parseMethodDescriptor yX10_clip.desc).map (fun d => d.parameters.length) = some 1 := by decide +kernel
set_option maxRecDepth 100000 in
set_option maxHeartbeats 4000000 in
theorem c_X10_clip (l : Launch) (X : XT) (hinj : XInj X nC) (hZ : ZOK (Zc X)) (N : Nat) (S : S2) (a1 : Int) (out : Int × S2) (hf : f_X10_clip N S a1 = some out) : MI l X shC nC (Zc X) yX10_clip cX10_clip 2 (some .int) rmX10_clip [.ref (X.2.2 0), .int (iz a1)] S out := by
  refine met_I (own := RX10) (by decide) rfl hinj hZ (Nat.le_of_ble_eq_true rfl) (fun p e s m args below meth c C ls H locs hw hl => ?_)
  unfold f_X10_clip at hf
  have hl : lv_has ls 2 [(0, .ref (X.2.2 0)), (1, .int (iz a1))] := hl
  refine lv_aload_n C.1.1 C.1.2.1 dX10_clip_0 rfl (lv_at hl 0 rfl) ?_
  refine r_iconst (v := 4) C dX10_clip_1 ?_
  refine lv_iload_n C.1.1 C.1.2.1 dX10_clip_2 rfl (lv_at hl 1 rfl) ?_
  refine r_iconst (v := 0) C dX10_clip_3 ?_
  refine r_callI (As := [.int (iz 4), .int (iz a1), .int (iz 0)]) (rest := []) (rm := rmX10_ask) C hw shC_0 ltC_0 cO10 tw3_230 tw3_232 tp_25 tw1_1 tw3_233 hd_X10_ask rfl ⟨⟨rfl, rfl⟩, Nat.le_of_ble_eq_true rfl, Nat.le_of_ble_eq_true rfl⟩ hl.1 rfl (Nat.le_of_ble_eq_true rfl) dX10_clip_4 hf (fun o ho => c_X10_ask l X hinj hZ N S 4 a1 0 o ho) (fun v4 S4 H locs hf hw => ?_)
  exact r_retI C hw dX10_clip_7 hf
def f_X10_lift (N : Nat) (S : S2) (a1 : Int) : Option (Int × S2) := bI (f_X10_ask N S 5 a1 0) fun v4 S4 => rI v4 S4
abbrev rmX10_lift : Room := { frames := 6, cells := 0, slots := 0, locals := 148 }
theorem hd_X10_lift : yX10_lift.cls ≠ "java/lang/invoke/MethodHandle" ∧ yX10_lift.cls ≠ "java/lang/invoke/VarHandle" ∧ (parseMethodDescriptor yX10_lift.desc).map (fun d => d.parameters.length) = some 1 := by decide +kernel
set_option maxRecDepth 100000 in
set_option maxHeartbeats 4000000 in
theorem c_X10_lift (l : Launch) (X : XT) (hinj : XInj X nC) (hZ : ZOK (Zc X)) (N : Nat) (S : S2) (a1 : Int) (out : Int × S2) (hf : f_X10_lift N S a1 = some out) : MI l X shC nC (Zc X) yX10_lift cX10_lift 2 (some .int) rmX10_lift [.ref (X.2.2 0), .int (iz a1)] S out := by
  refine met_I (own := RX10) (by decide) rfl hinj hZ (Nat.le_of_ble_eq_true rfl) (fun p e s m args below meth c C ls H locs hw hl => ?_)
  unfold f_X10_lift at hf
  have hl : lv_has ls 2 [(0, .ref (X.2.2 0)), (1, .int (iz a1))] := hl
  refine lv_aload_n C.1.1 C.1.2.1 dX10_lift_0 rfl (lv_at hl 0 rfl) ?_
  refine r_iconst (v := 5) C dX10_lift_1 ?_
  refine lv_iload_n C.1.1 C.1.2.1 dX10_lift_2 rfl (lv_at hl 1 rfl) ?_
  refine r_iconst (v := 0) C dX10_lift_3 ?_
  refine r_callI (As := [.int (iz 5), .int (iz a1), .int (iz 0)]) (rest := []) (rm := rmX10_ask) C hw shC_0 ltC_0 cO10 tw3_230 tw3_232 tp_25 tw1_1 tw3_233 hd_X10_ask rfl ⟨⟨rfl, rfl⟩, Nat.le_of_ble_eq_true rfl, Nat.le_of_ble_eq_true rfl⟩ hl.1 rfl (Nat.le_of_ble_eq_true rfl) dX10_lift_4 hf (fun o ho => c_X10_ask l X hinj hZ N S 5 a1 0 o ho) (fun v4 S4 H locs hf hw => ?_)
  exact r_retI C hw dX10_lift_7 hf
def f_X10_scale (N : Nat) (S : S2) (a1 : Int) (a2 : Int) : Option (Int × S2) := bI (f_X10_ask N S 6 a1 a2) fun v5 S5 => rI v5 S5
abbrev rmX10_scale : Room := { frames := 6, cells := 0, slots := 0, locals := 148 }
theorem hd_X10_scale : yX10_scale.cls ≠ "java/lang/invoke/MethodHandle" ∧ yX10_scale.cls ≠ "java/lang/invoke/VarHandle" ∧ (parseMethodDescriptor yX10_scale.desc).map (fun d => d.parameters.length) = some 2 := by decide +kernel
set_option maxRecDepth 100000 in
set_option maxHeartbeats 4000000 in
theorem c_X10_scale (l : Launch) (X : XT) (hinj : XInj X nC) (hZ : ZOK (Zc X)) (N : Nat) (S : S2) (a1 : Int) (a2 : Int) (out : Int × S2) (hf : f_X10_scale N S a1 a2 = some out) : MI l X shC nC (Zc X) yX10_scale cX10_scale 3 (some .int) rmX10_scale [.ref (X.2.2 0), .int (iz a1), .int (iz a2)] S out := by
  refine met_I (own := RX10) (by decide) rfl hinj hZ (Nat.le_of_ble_eq_true rfl) (fun p e s m args below meth c C ls H locs hw hl => ?_)
  unfold f_X10_scale at hf
  have hl : lv_has ls 3 [(0, .ref (X.2.2 0)), (1, .int (iz a1)), (2, .int (iz a2))] := hl
  refine lv_aload_n C.1.1 C.1.2.1 dX10_scale_0 rfl (lv_at hl 0 rfl) ?_
  refine r_bipush (v := 6) C dX10_scale_1 (by decide) ?_
  refine lv_iload_n C.1.1 C.1.2.1 dX10_scale_3 rfl (lv_at hl 1 rfl) ?_
  refine lv_iload_n C.1.1 C.1.2.1 dX10_scale_4 rfl (lv_at hl 2 rfl) ?_
  refine r_callI (As := [.int (iz 6), .int (iz a1), .int (iz a2)]) (rest := []) (rm := rmX10_ask) C hw shC_0 ltC_0 cO10 tw3_230 tw3_232 tp_25 tw1_1 tw3_233 hd_X10_ask rfl ⟨⟨rfl, rfl⟩, Nat.le_of_ble_eq_true rfl, Nat.le_of_ble_eq_true rfl⟩ hl.1 rfl (Nat.le_of_ble_eq_true rfl) dX10_scale_5 hf (fun o ho => c_X10_ask l X hinj hZ N S 6 a1 a2 o ho) (fun v5 S5 H locs hf hw => ?_)
  exact r_retI C hw dX10_scale_8 hf
def f_X10_set (N : Nat) (S : S2) (a1 : Int) (a2 : Int) : Option (Int × S2) := bI (f_X10_ask N S 7 a1 a2) fun v5 S5 => rI v5 S5
abbrev rmX10_set : Room := { frames := 6, cells := 0, slots := 0, locals := 148 }
theorem hd_X10_set : yX10_set.cls ≠ "java/lang/invoke/MethodHandle" ∧ yX10_set.cls ≠ "java/lang/invoke/VarHandle" ∧ (parseMethodDescriptor yX10_set.desc).map (fun d => d.parameters.length) = some 2 := by decide +kernel
set_option maxRecDepth 100000 in
set_option maxHeartbeats 4000000 in
theorem c_X10_set (l : Launch) (X : XT) (hinj : XInj X nC) (hZ : ZOK (Zc X)) (N : Nat) (S : S2) (a1 : Int) (a2 : Int) (out : Int × S2) (hf : f_X10_set N S a1 a2 = some out) : MI l X shC nC (Zc X) yX10_set cX10_set 3 (some .int) rmX10_set [.ref (X.2.2 0), .int (iz a1), .int (iz a2)] S out := by
  refine met_I (own := RX10) (by decide) rfl hinj hZ (Nat.le_of_ble_eq_true rfl) (fun p e s m args below meth c C ls H locs hw hl => ?_)
  unfold f_X10_set at hf
  have hl : lv_has ls 3 [(0, .ref (X.2.2 0)), (1, .int (iz a1)), (2, .int (iz a2))] := hl
  refine lv_aload_n C.1.1 C.1.2.1 dX10_set_0 rfl (lv_at hl 0 rfl) ?_
  refine r_bipush (v := 7) C dX10_set_1 (by decide) ?_
  refine lv_iload_n C.1.1 C.1.2.1 dX10_set_3 rfl (lv_at hl 1 rfl) ?_
  refine lv_iload_n C.1.1 C.1.2.1 dX10_set_4 rfl (lv_at hl 2 rfl) ?_
  refine r_callI (As := [.int (iz 7), .int (iz a1), .int (iz a2)]) (rest := []) (rm := rmX10_ask) C hw shC_0 ltC_0 cO10 tw3_230 tw3_232 tp_25 tw1_1 tw3_233 hd_X10_ask rfl ⟨⟨rfl, rfl⟩, Nat.le_of_ble_eq_true rfl, Nat.le_of_ble_eq_true rfl⟩ hl.1 rfl (Nat.le_of_ble_eq_true rfl) dX10_set_5 hf (fun o ho => c_X10_ask l X hinj hZ N S 7 a1 a2 o ho) (fun v5 S5 H locs hf hw => ?_)
  exact r_retI C hw dX10_set_8 hf
def f_X10_noise (N : Nat) (S : S2) (a1 : Int) : Option (Int × S2) := bI (f_X10_ask N S 8 a1 0) fun v5 S5 => rI v5 S5
abbrev rmX10_noise : Room := { frames := 6, cells := 0, slots := 0, locals := 148 }
theorem hd_X10_noise : yX10_noise.cls ≠ "java/lang/invoke/MethodHandle" ∧ yX10_noise.cls ≠ "java/lang/invoke/VarHandle" ∧ (parseMethodDescriptor yX10_noise.desc).map (fun d => d.parameters.length) = some 1 := by decide +kernel
set_option maxRecDepth 100000 in
set_option maxHeartbeats 4000000 in
theorem c_X10_noise (l : Launch) (X : XT) (hinj : XInj X nC) (hZ : ZOK (Zc X)) (N : Nat) (S : S2) (a1 : Int) (out : Int × S2) (hf : f_X10_noise N S a1 = some out) : MI l X shC nC (Zc X) yX10_noise cX10_noise 2 (some .int) rmX10_noise [.ref (X.2.2 0), .int (iz a1)] S out := by
  refine met_I (own := RX10) (by decide) rfl hinj hZ (Nat.le_of_ble_eq_true rfl) (fun p e s m args below meth c C ls H locs hw hl => ?_)
  unfold f_X10_noise at hf
  have hl : lv_has ls 2 [(0, .ref (X.2.2 0)), (1, .int (iz a1))] := hl
  refine lv_aload_n C.1.1 C.1.2.1 dX10_noise_0 rfl (lv_at hl 0 rfl) ?_
  refine r_bipush (v := 8) C dX10_noise_1 (by decide) ?_
  refine lv_iload_n C.1.1 C.1.2.1 dX10_noise_3 rfl (lv_at hl 1 rfl) ?_
  refine r_iconst (v := 0) C dX10_noise_4 ?_
  refine r_callI (As := [.int (iz 8), .int (iz a1), .int (iz 0)]) (rest := []) (rm := rmX10_ask) C hw shC_0 ltC_0 cO10 tw3_230 tw3_232 tp_25 tw1_1 tw3_233 hd_X10_ask rfl ⟨⟨rfl, rfl⟩, Nat.le_of_ble_eq_true rfl, Nat.le_of_ble_eq_true rfl⟩ hl.1 rfl (Nat.le_of_ble_eq_true rfl) dX10_noise_5 hf (fun o ho => c_X10_ask l X hinj hZ N S 8 a1 0 o ho) (fun v5 S5 H locs hf hw => ?_)
  exact r_retI C hw dX10_noise_8 hf
def f_X10_cut (N : Nat) (S : S2) (a1 : Int) (a2 : Int) : Option (Int × S2) := bI (f_X10_ask N S 9 a1 a2) fun v5 S5 => rI v5 S5
abbrev rmX10_cut : Room := { frames := 6, cells := 0, slots := 0, locals := 148 }
theorem hd_X10_cut : yX10_cut.cls ≠ "java/lang/invoke/MethodHandle" ∧ yX10_cut.cls ≠ "java/lang/invoke/VarHandle" ∧ (parseMethodDescriptor yX10_cut.desc).map (fun d => d.parameters.length) = some 2 := by decide +kernel
set_option maxRecDepth 100000 in
set_option maxHeartbeats 4000000 in
theorem c_X10_cut (l : Launch) (X : XT) (hinj : XInj X nC) (hZ : ZOK (Zc X)) (N : Nat) (S : S2) (a1 : Int) (a2 : Int) (out : Int × S2) (hf : f_X10_cut N S a1 a2 = some out) : MI l X shC nC (Zc X) yX10_cut cX10_cut 3 (some .int) rmX10_cut [.ref (X.2.2 0), .int (iz a1), .int (iz a2)] S out := by
  refine met_I (own := RX10) (by decide) rfl hinj hZ (Nat.le_of_ble_eq_true rfl) (fun p e s m args below meth c C ls H locs hw hl => ?_)
  unfold f_X10_cut at hf
  have hl : lv_has ls 3 [(0, .ref (X.2.2 0)), (1, .int (iz a1)), (2, .int (iz a2))] := hl
  refine lv_aload_n C.1.1 C.1.2.1 dX10_cut_0 rfl (lv_at hl 0 rfl) ?_
  refine r_bipush (v := 9) C dX10_cut_1 (by decide) ?_
  refine lv_iload_n C.1.1 C.1.2.1 dX10_cut_3 rfl (lv_at hl 1 rfl) ?_
  refine lv_iload_n C.1.1 C.1.2.1 dX10_cut_4 rfl (lv_at hl 2 rfl) ?_
  refine r_callI (As := [.int (iz 9), .int (iz a1), .int (iz a2)]) (rest := []) (rm := rmX10_ask) C hw shC_0 ltC_0 cO10 tw3_230 tw3_232 tp_25 tw1_1 tw3_233 hd_X10_ask rfl ⟨⟨rfl, rfl⟩, Nat.le_of_ble_eq_true rfl, Nat.le_of_ble_eq_true rfl⟩ hl.1 rfl (Nat.le_of_ble_eq_true rfl) dX10_cut_5 hf (fun o ho => c_X10_ask l X hinj hZ N S 9 a1 a2 o ho) (fun v5 S5 H locs hf hw => ?_)
  exact r_retI C hw dX10_cut_8 hf
