def f_X0_copyFrom (N : Nat) (S : S2) (c0 : Nat) (c1 : Nat) : Option (S2) := gI S c1 1 fun v2 => uI S c0 1 v2 fun S5 => gI S5 c1 2 fun v10 => uI S5 c0 2 v10 fun S13 => cpI S13 (c1 + 1) (c0 + 1) 48 48 0 0 48 fun S28 => rV S28
abbrev rmX0_copyFrom : Room := { frames := 1, cells := 0, slots := 0, locals := 26 }
theorem hd_X0_copyFrom : yX0_copyFrom.cls ≠ "java/lang/invoke/MethodHandle" ∧ yX0_copyFrom.cls ≠ "java/lang/invoke/VarHandle" ∧ (parseMethodDescriptor yX0_copyFrom.desc).map (fun d => d.parameters.length) = some 1 := by decide +kernel
set_option maxRecDepth 100000 in
set_option maxHeartbeats 4000000 in
theorem c_X0_copyFrom (l : Launch) (X : XT) (hinj : XInj X nC) (hZ : ZOK (Zc X)) (N : Nat) (S : S2) (c0 : Nat) (c1 : Nat) (i0 : Is0 c0) (i1 : Is0 c1) (out : S2) (hf : f_X0_copyFrom N S c0 c1 = some out) : MV l X shC nC (Zc X) yX0_copyFrom cX0_copyFrom 2 none rmX0_copyFrom [.ref (X.2.2 c0), .ref (X.2.2 c1)] S out := by
  refine met_V (own := RX0) (by decide) rfl hinj hZ (Nat.le_of_ble_eq_true rfl) (fun p e s m args below meth c C ls H locs hw hl => ?_)
  unfold f_X0_copyFrom at hf
  have hl : lv_has ls 2 [(0, .ref (X.2.2 c0)), (1, .ref (X.2.2 c1))] := hl
  refine lv_aload_n C.1.1 C.1.2.1 dX0_copyFrom_0 rfl (lv_at hl 0 rfl) ?_
  refine lv_aload_n C.1.1 C.1.2.1 dX0_copyFrom_1 rfl (lv_at hl 1 rfl) ?_
  refine r_getI (k := 1) C hw (is0_s i1) (is0_l i1) cO0 rfl (by decide) tw1_89 rfl dX0_copyFrom_2 hf (fun v2 hf => ?_)
  refine r_putI (k := 1) C hw (is0_s i0) (is0_l i0) cO0 rfl (by decide) tw1_89 rfl rfl rfl dX0_copyFrom_5 hf (fun S5 H locs hf hw => ?_)
  refine lv_aload_n C.1.1 C.1.2.1 dX0_copyFrom_8 rfl (lv_at hl 0 rfl) ?_
  refine lv_aload_n C.1.1 C.1.2.1 dX0_copyFrom_9 rfl (lv_at hl 1 rfl) ?_
  refine r_getI (k := 2) C hw (is0_s i1) (is0_l i1) cO0 rfl (by decide) tw1_93 rfl dX0_copyFrom_10 hf (fun v10 hf => ?_)
  refine r_putI (k := 2) C hw (is0_s i0) (is0_l i0) cO0 rfl (by decide) tw1_93 rfl rfl rfl dX0_copyFrom_13 hf (fun S13 H locs hf hw => ?_)
  refine lv_aload_n C.1.1 C.1.2.1 dX0_copyFrom_16 rfl (lv_at hl 1 rfl) ?_
  refine r_getR (k := 0) C hw (is0_s i1) (is0_l i1) cO0 rfl (by decide) tw1_85 rfl dX0_copyFrom_17 ?_
  refine lv_iconst (v := 0) C.1.1 C.1.2.1 dX0_copyFrom_20 (by decide) ?_
  refine lv_aload_n C.1.1 C.1.2.1 dX0_copyFrom_21 rfl (lv_at hl 0 rfl) ?_
  refine r_getR (k := 0) C hw (is0_s i0) (is0_l i0) cO0 rfl (by decide) tw1_85 rfl dX0_copyFrom_22 ?_
  refine lv_iconst (v := 0) C.1.1 C.1.2.1 dX0_copyFrom_25 (by decide) ?_
  refine lv_bipush (v := 48) C.1.1 C.1.2.1 dX0_copyFrom_26 (by decide) ?_
  refine r_cpI C hw (is0_s1 i1) (is0_s1 i0) (is0_l1 i1) (is0_l1 i0) tw3_52 tw3_54 tw3_53 tw1_17 hl.1 (Nat.le_of_ble_eq_true rfl) (Nat.le_of_ble_eq_true rfl) dX0_copyFrom_28 hf (fun S28 H locs hf hw => ?_)
  exact r_retV C hw dX0_copyFrom_31 hf
def f_X0_has (N : Nat) (S : S2) (c0 : Nat) (a1 : Int32) : Option (Int32 × S2) := (if a1 < 0 then rZ 0 S else gI S c0 1 fun v6 => (if v6 ≤ a1 then rZ 0 S else rZ 1 S))
abbrev rmX0_has : Room := { frames := 0, cells := 0, slots := 0, locals := 0 }
theorem hd_X0_has : yX0_has.cls ≠ "java/lang/invoke/MethodHandle" ∧ yX0_has.cls ≠ "java/lang/invoke/VarHandle" ∧ (parseMethodDescriptor yX0_has.desc).map (fun d => d.parameters.length) = some 1 := by decide +kernel
set_option maxRecDepth 100000 in
set_option maxHeartbeats 4000000 in
theorem c_X0_has (l : Launch) (X : XT) (hinj : XInj X nC) (hZ : ZOK (Zc X)) (N : Nat) (S : S2) (c0 : Nat) (a1 : Int32) (i0 : Is0 c0) (out : Int32 × S2) (hf : f_X0_has N S c0 a1 = some out) : MI l X shC nC (Zc X) yX0_has cX0_has 2 (some .boolean) rmX0_has [.ref (X.2.2 c0), .int a1] S out := by
  refine met_I (own := RX0) (by decide) rfl hinj hZ (Nat.le_of_ble_eq_true rfl) (fun p e s m args below meth c C ls H locs hw hl => ?_)
  unfold f_X0_has at hf
  have hl : lv_has ls 2 [(0, .ref (X.2.2 c0)), (1, .int a1)] := hl
  refine lv_iload_n C.1.1 C.1.2.1 dX0_has_0 rfl (lv_at hl 1 rfl) ?_
  refine r_if_lt C (tgt := 16) dX0_has_1 (by decide) hf (fun hf => ?_) (fun hf => ?_)
  · refine lv_iconst (v := 0) C.1.1 C.1.2.1 dX0_has_16 (by decide) ?_
    exact r_retZ C hw dX0_has_17 hf
  · refine lv_iload_n C.1.1 C.1.2.1 dX0_has_4 rfl (lv_at hl 1 rfl) ?_
    refine lv_aload_n C.1.1 C.1.2.1 dX0_has_5 rfl (lv_at hl 0 rfl) ?_
    refine r_getI (k := 1) C hw (is0_s i0) (is0_l i0) cO0 rfl (by decide) tw1_89 rfl dX0_has_6 hf (fun v6 hf => ?_)
    refine r_icmp_ge C (tgt := 16) dX0_has_9 (by decide) hf (fun hf => ?_) (fun hf => ?_)
    · refine lv_iconst (v := 0) C.1.1 C.1.2.1 dX0_has_16 (by decide) ?_
      exact r_retZ C hw dX0_has_17 hf
    · refine lv_iconst (v := 1) C.1.1 C.1.2.1 dX0_has_12 (by decide) ?_
      refine lv_goto (tgt := 17) C.1.1 C.1.2.1 dX0_has_13 (by decide) ?_
      exact r_retZ C hw dX0_has_17 hf
def f_X0_leastSample_6 (c0 : Nat) : Nat → Int32 → Int32 → S2 → Option (Int32 × S2)
  | 0, _, _, _ => none
  | N + 1, x1, x2, S => gI S c0 1 fun v8 => (if v8 ≤ x2 then rI x1 S else aI S (c0 + 1) 48 x2 fun v20 => (f_X0_leastSample_6 c0 N) (mnI x1 v20) (x2 + 1) S)
def f_X0_leastSample (N : Nat) (S : S2) (c0 : Nat) : Option (Int32 × S2) := (f_X0_leastSample_6 c0 N) 999 0 S
abbrev rmX0_leastSample : Room := { frames := 1, cells := 0, slots := 0, locals := 21 }
theorem hd_X0_leastSample : yX0_leastSample.cls ≠ "java/lang/invoke/MethodHandle" ∧ yX0_leastSample.cls ≠ "java/lang/invoke/VarHandle" ∧ (parseMethodDescriptor yX0_leastSample.desc).map (fun d => d.parameters.length) = some 0 := by decide +kernel
set_option maxRecDepth 100000 in
set_option maxHeartbeats 4000000 in
theorem w_X0_leastSample_6 {p : Program} (l : Launch) {e : Env} {s : State} {m : MethodId} {args : Array Value} {below : List Frame} {meth : Method} {c : Code} {X : XT} (hinj : XInj X nC) (hZ : ZOK (Zc X)) (C : CX p s m args meth c cX0_leastSample 3 RX0 (some .int) X nC (Zc X)) (out : Int32 × S2) (c0 : Nat) (i0 : Is0 c0) : ∀ (N : Nat), ∀ (x1 : Int32) (x2 : Int32) (S : S2) (H : Heap) (locs : List Loc) (ls : Array Slot), f_X0_leastSample_6 c0 N x1 x2 S = some out → WH X shC nC s S H locs → lv_has ls 3 [(0, .ref (X.2.2 c0)), (1, .int x1), (2, .int x2)] → W p l e rmX0_leastSample s m args below meth c H locs 0 0 (QI X shC nC s args below out) (F0 m 6 ls []) := by
  intro N
  induction N with
  | zero => intro x1 x2 S H locs ls hf hw hl; cases hf
  | succ N ih =>
    intro x1 x2 S H locs ls hf hw hl
    rw [f_X0_leastSample_6.eq_2] at hf
    refine lv_iload_n C.1.1 C.1.2.1 dX0_leastSample_6 rfl (lv_at hl 2 rfl) ?_
    refine lv_aload_n C.1.1 C.1.2.1 dX0_leastSample_7 rfl (lv_at hl 0 rfl) ?_
    refine r_getI (k := 1) C hw (is0_s i0) (is0_l i0) cO0 rfl (by decide) tw1_89 rfl dX0_leastSample_8 hf (fun v8 hf => ?_)
    refine r_icmp_ge C (tgt := 31) dX0_leastSample_11 (by decide) hf (fun hf => ?_) (fun hf => ?_)
    · refine lv_iload_n C.1.1 C.1.2.1 dX0_leastSample_31 rfl (lv_at hl 1 rfl) ?_
      exact r_retI C hw dX0_leastSample_32 hf
    · refine lv_iload_n C.1.1 C.1.2.1 dX0_leastSample_14 rfl (lv_at hl 1 rfl) ?_
      refine lv_aload_n C.1.1 C.1.2.1 dX0_leastSample_15 rfl (lv_at hl 0 rfl) ?_
      refine r_getR (k := 0) C hw (is0_s i0) (is0_l i0) cO0 rfl (by decide) tw1_85 rfl dX0_leastSample_16 ?_
      refine lv_iload_n C.1.1 C.1.2.1 dX0_leastSample_19 rfl (lv_at hl 2 rfl) ?_
      refine r_iald C hw (is0_s1 i0) (is0_l1 i0) dX0_leastSample_20 hf (fun v20 hf => ?_)
      refine r_min C tw3_135 tw3_81 tw1_18 tw3_82 hl.1 (Nat.le_of_ble_eq_true rfl) (Nat.le_of_ble_eq_true rfl) dX0_leastSample_21 ?_
      refine lv_istore_n (lv' := [(1, .int (mnI x1 v20)), (0, .ref (X.2.2 c0)), (2, .int x2)]) C.1.1 C.1.2.1 dX0_leastSample_24 rfl hl (by decide) rfl (fun ls hl => ?_)
      refine lv_iinc (v := (x2 + 1)) (lv' := [(2, .int (x2 + 1)), (1, .int (mnI x1 v20)), (0, .ref (X.2.2 c0))]) C.1.1 C.1.2.1 dX0_leastSample_25 hl (k := 2) rfl (by rfl) (by decide) rfl (fun ls hl => ?_)
      refine lv_goto (tgt := 6) C.1.1 C.1.2.1 dX0_leastSample_28 (by decide) ?_
      exact ih (mnI x1 v20) (x2 + 1) S H locs ls hf hw (lv_sub hl [2, 1, 0] rfl)
set_option maxRecDepth 100000 in
set_option maxHeartbeats 4000000 in
theorem c_X0_leastSample (l : Launch) (X : XT) (hinj : XInj X nC) (hZ : ZOK (Zc X)) (N : Nat) (S : S2) (c0 : Nat) (i0 : Is0 c0) (out : Int32 × S2) (hf : f_X0_leastSample N S c0 = some out) : MI l X shC nC (Zc X) yX0_leastSample cX0_leastSample 3 (some .int) rmX0_leastSample [.ref (X.2.2 c0)] S out := by
  refine met_I (own := RX0) (by decide) rfl hinj hZ (Nat.le_of_ble_eq_true rfl) (fun p e s m args below meth c C ls H locs hw hl => ?_)
  unfold f_X0_leastSample at hf
  have hl : lv_has ls 3 [(0, .ref (X.2.2 c0))] := hl
  refine lv_sipush (v := 999) C.1.1 C.1.2.1 dX0_leastSample_0 (by decide) ?_
  refine lv_istore_n (lv' := [(1, .int 999), (0, .ref (X.2.2 c0))]) C.1.1 C.1.2.1 dX0_leastSample_3 rfl hl (by decide) rfl (fun ls hl => ?_)
  refine lv_iconst (v := 0) C.1.1 C.1.2.1 dX0_leastSample_4 (by decide) ?_
  refine lv_istore_n (lv' := [(2, .int 0), (1, .int 999), (0, .ref (X.2.2 c0))]) C.1.1 C.1.2.1 dX0_leastSample_5 rfl hl (by decide) rfl (fun ls hl => ?_)
  exact (w_X0_leastSample_6 l hinj hZ C out c0 i0 N) 999 0 S H locs ls hf hw (lv_sub hl [2, 1, 0] rfl)
def f_X0_greatestSample_4 (c0 : Nat) : Nat → Int32 → Int32 → S2 → Option (Int32 × S2)
  | 0, _, _, _ => none
  | N + 1, x1, x2, S => gI S c0 1 fun v6 => (if v6 ≤ x2 then rI x1 S else aI S (c0 + 1) 48 x2 fun v18 => (f_X0_greatestSample_4 c0 N) (mxI x1 v18) (x2 + 1) S)
def f_X0_greatestSample (N : Nat) (S : S2) (c0 : Nat) : Option (Int32 × S2) := (f_X0_greatestSample_4 c0 N) 0 0 S
abbrev rmX0_greatestSample : Room := { frames := 1, cells := 0, slots := 0, locals := 21 }
theorem hd_X0_greatestSample : yX0_greatestSample.cls ≠ "java/lang/invoke/MethodHandle" ∧ yX0_greatestSample.cls ≠ "java/lang/invoke/VarHandle" ∧ (parseMethodDescriptor yX0_greatestSample.desc).map (fun d => d.parameters.length) = some 0 := by decide +kernel
set_option maxRecDepth 100000 in
set_option maxHeartbeats 4000000 in
theorem w_X0_greatestSample_4 {p : Program} (l : Launch) {e : Env} {s : State} {m : MethodId} {args : Array Value} {below : List Frame} {meth : Method} {c : Code} {X : XT} (hinj : XInj X nC) (hZ : ZOK (Zc X)) (C : CX p s m args meth c cX0_greatestSample 3 RX0 (some .int) X nC (Zc X)) (out : Int32 × S2) (c0 : Nat) (i0 : Is0 c0) : ∀ (N : Nat), ∀ (x1 : Int32) (x2 : Int32) (S : S2) (H : Heap) (locs : List Loc) (ls : Array Slot), f_X0_greatestSample_4 c0 N x1 x2 S = some out → WH X shC nC s S H locs → lv_has ls 3 [(0, .ref (X.2.2 c0)), (1, .int x1), (2, .int x2)] → W p l e rmX0_greatestSample s m args below meth c H locs 0 0 (QI X shC nC s args below out) (F0 m 4 ls []) := by
  intro N
  induction N with
  | zero => intro x1 x2 S H locs ls hf hw hl; cases hf
  | succ N ih =>
    intro x1 x2 S H locs ls hf hw hl
    rw [f_X0_greatestSample_4.eq_2] at hf
    refine lv_iload_n C.1.1 C.1.2.1 dX0_greatestSample_4 rfl (lv_at hl 2 rfl) ?_
    refine lv_aload_n C.1.1 C.1.2.1 dX0_greatestSample_5 rfl (lv_at hl 0 rfl) ?_
    refine r_getI (k := 1) C hw (is0_s i0) (is0_l i0) cO0 rfl (by decide) tw1_89 rfl dX0_greatestSample_6 hf (fun v6 hf => ?_)
    refine r_icmp_ge C (tgt := 29) dX0_greatestSample_9 (by decide) hf (fun hf => ?_) (fun hf => ?_)
    · refine lv_iload_n C.1.1 C.1.2.1 dX0_greatestSample_29 rfl (lv_at hl 1 rfl) ?_
      exact r_retI C hw dX0_greatestSample_30 hf
    · refine lv_iload_n C.1.1 C.1.2.1 dX0_greatestSample_12 rfl (lv_at hl 1 rfl) ?_
      refine lv_aload_n C.1.1 C.1.2.1 dX0_greatestSample_13 rfl (lv_at hl 0 rfl) ?_
      refine r_getR (k := 0) C hw (is0_s i0) (is0_l i0) cO0 rfl (by decide) tw1_85 rfl dX0_greatestSample_14 ?_
      refine lv_iload_n C.1.1 C.1.2.1 dX0_greatestSample_17 rfl (lv_at hl 2 rfl) ?_
      refine r_iald C hw (is0_s1 i0) (is0_l1 i0) dX0_greatestSample_18 hf (fun v18 hf => ?_)
      refine r_max C tw4_17 tw3_84 tw1_18 tw3_85 hl.1 (Nat.le_of_ble_eq_true rfl) (Nat.le_of_ble_eq_true rfl) dX0_greatestSample_19 ?_
      refine lv_istore_n (lv' := [(1, .int (mxI x1 v18)), (0, .ref (X.2.2 c0)), (2, .int x2)]) C.1.1 C.1.2.1 dX0_greatestSample_22 rfl hl (by decide) rfl (fun ls hl => ?_)
      refine lv_iinc (v := (x2 + 1)) (lv' := [(2, .int (x2 + 1)), (1, .int (mxI x1 v18)), (0, .ref (X.2.2 c0))]) C.1.1 C.1.2.1 dX0_greatestSample_23 hl (k := 2) rfl (by rfl) (by decide) rfl (fun ls hl => ?_)
      refine lv_goto (tgt := 4) C.1.1 C.1.2.1 dX0_greatestSample_26 (by decide) ?_
      exact ih (mxI x1 v18) (x2 + 1) S H locs ls hf hw (lv_sub hl [2, 1, 0] rfl)
set_option maxRecDepth 100000 in
set_option maxHeartbeats 4000000 in
theorem c_X0_greatestSample (l : Launch) (X : XT) (hinj : XInj X nC) (hZ : ZOK (Zc X)) (N : Nat) (S : S2) (c0 : Nat) (i0 : Is0 c0) (out : Int32 × S2) (hf : f_X0_greatestSample N S c0 = some out) : MI l X shC nC (Zc X) yX0_greatestSample cX0_greatestSample 3 (some .int) rmX0_greatestSample [.ref (X.2.2 c0)] S out := by
  refine met_I (own := RX0) (by decide) rfl hinj hZ (Nat.le_of_ble_eq_true rfl) (fun p e s m args below meth c C ls H locs hw hl => ?_)
  unfold f_X0_greatestSample at hf
  have hl : lv_has ls 3 [(0, .ref (X.2.2 c0))] := hl
  refine lv_iconst (v := 0) C.1.1 C.1.2.1 dX0_greatestSample_0 (by decide) ?_
  refine lv_istore_n (lv' := [(1, .int 0), (0, .ref (X.2.2 c0))]) C.1.1 C.1.2.1 dX0_greatestSample_1 rfl hl (by decide) rfl (fun ls hl => ?_)
  refine lv_iconst (v := 0) C.1.1 C.1.2.1 dX0_greatestSample_2 (by decide) ?_
  refine lv_istore_n (lv' := [(2, .int 0), (1, .int 0), (0, .ref (X.2.2 c0))]) C.1.1 C.1.2.1 dX0_greatestSample_3 rfl hl (by decide) rfl (fun ls hl => ?_)
  exact (w_X0_greatestSample_4 l hinj hZ C out c0 i0 N) 0 0 S H locs ls hf hw (lv_sub hl [2, 1, 0] rfl)
def f_X0_sumOfSamples_4 (c0 : Nat) : Nat → Int32 → Int32 → S2 → Option (Int32 × S2)
  | 0, _, _, _ => none
  | N + 1, x1, x2, S => gI S c0 1 fun v6 => (if v6 ≤ x2 then rI x1 S else aI S (c0 + 1) 48 x2 fun v18 => (f_X0_sumOfSamples_4 c0 N) (x1 + v18) (x2 + 1) S)
def f_X0_sumOfSamples (N : Nat) (S : S2) (c0 : Nat) : Option (Int32 × S2) := (f_X0_sumOfSamples_4 c0 N) 0 0 S
abbrev rmX0_sumOfSamples : Room := { frames := 0, cells := 0, slots := 0, locals := 0 }
theorem hd_X0_sumOfSamples : yX0_sumOfSamples.cls ≠ "java/lang/invoke/MethodHandle" ∧ yX0_sumOfSamples.cls ≠ "java/lang/invoke/VarHandle" ∧ (parseMethodDescriptor yX0_sumOfSamples.desc).map (fun d => d.parameters.length) = some 0 := by decide +kernel
set_option maxRecDepth 100000 in
set_option maxHeartbeats 4000000 in
theorem w_X0_sumOfSamples_4 {p : Program} (l : Launch) {e : Env} {s : State} {m : MethodId} {args : Array Value} {below : List Frame} {meth : Method} {c : Code} {X : XT} (hinj : XInj X nC) (hZ : ZOK (Zc X)) (C : CX p s m args meth c cX0_sumOfSamples 3 RX0 (some .int) X nC (Zc X)) (out : Int32 × S2) (c0 : Nat) (i0 : Is0 c0) : ∀ (N : Nat), ∀ (x1 : Int32) (x2 : Int32) (S : S2) (H : Heap) (locs : List Loc) (ls : Array Slot), f_X0_sumOfSamples_4 c0 N x1 x2 S = some out → WH X shC nC s S H locs → lv_has ls 3 [(0, .ref (X.2.2 c0)), (1, .int x1), (2, .int x2)] → W p l e rmX0_sumOfSamples s m args below meth c H locs 0 0 (QI X shC nC s args below out) (F0 m 4 ls []) := by
  intro N
  induction N with
  | zero => intro x1 x2 S H locs ls hf hw hl; cases hf
  | succ N ih =>
    intro x1 x2 S H locs ls hf hw hl
    rw [f_X0_sumOfSamples_4.eq_2] at hf
    refine lv_iload_n C.1.1 C.1.2.1 dX0_sumOfSamples_4 rfl (lv_at hl 2 rfl) ?_
    refine lv_aload_n C.1.1 C.1.2.1 dX0_sumOfSamples_5 rfl (lv_at hl 0 rfl) ?_
    refine r_getI (k := 1) C hw (is0_s i0) (is0_l i0) cO0 rfl (by decide) tw1_89 rfl dX0_sumOfSamples_6 hf (fun v6 hf => ?_)
    refine r_icmp_ge C (tgt := 27) dX0_sumOfSamples_9 (by decide) hf (fun hf => ?_) (fun hf => ?_)
    · refine lv_iload_n C.1.1 C.1.2.1 dX0_sumOfSamples_27 rfl (lv_at hl 1 rfl) ?_
      exact r_retI C hw dX0_sumOfSamples_28 hf
    · refine lv_iload_n C.1.1 C.1.2.1 dX0_sumOfSamples_12 rfl (lv_at hl 1 rfl) ?_
      refine lv_aload_n C.1.1 C.1.2.1 dX0_sumOfSamples_13 rfl (lv_at hl 0 rfl) ?_
      refine r_getR (k := 0) C hw (is0_s i0) (is0_l i0) cO0 rfl (by decide) tw1_85 rfl dX0_sumOfSamples_14 ?_
      refine lv_iload_n C.1.1 C.1.2.1 dX0_sumOfSamples_17 rfl (lv_at hl 2 rfl) ?_
      refine r_iald C hw (is0_s1 i0) (is0_l1 i0) dX0_sumOfSamples_18 hf (fun v18 hf => ?_)
      refine lv_iadd C.1.1 C.1.2.1 dX0_sumOfSamples_19 ?_
      refine lv_istore_n (lv' := [(1, .int (x1 + v18)), (0, .ref (X.2.2 c0)), (2, .int x2)]) C.1.1 C.1.2.1 dX0_sumOfSamples_20 rfl hl (by decide) rfl (fun ls hl => ?_)
      refine lv_iinc (v := (x2 + 1)) (lv' := [(2, .int (x2 + 1)), (1, .int (x1 + v18)), (0, .ref (X.2.2 c0))]) C.1.1 C.1.2.1 dX0_sumOfSamples_21 hl (k := 2) rfl (by rfl) (by decide) rfl (fun ls hl => ?_)
      refine lv_goto (tgt := 4) C.1.1 C.1.2.1 dX0_sumOfSamples_24 (by decide) ?_
      exact ih (x1 + v18) (x2 + 1) S H locs ls hf hw (lv_sub hl [2, 1, 0] rfl)
set_option maxRecDepth 100000 in
set_option maxHeartbeats 4000000 in
theorem c_X0_sumOfSamples (l : Launch) (X : XT) (hinj : XInj X nC) (hZ : ZOK (Zc X)) (N : Nat) (S : S2) (c0 : Nat) (i0 : Is0 c0) (out : Int32 × S2) (hf : f_X0_sumOfSamples N S c0 = some out) : MI l X shC nC (Zc X) yX0_sumOfSamples cX0_sumOfSamples 3 (some .int) rmX0_sumOfSamples [.ref (X.2.2 c0)] S out := by
  refine met_I (own := RX0) (by decide) rfl hinj hZ (Nat.le_of_ble_eq_true rfl) (fun p e s m args below meth c C ls H locs hw hl => ?_)
  unfold f_X0_sumOfSamples at hf
  have hl : lv_has ls 3 [(0, .ref (X.2.2 c0))] := hl
  refine lv_iconst (v := 0) C.1.1 C.1.2.1 dX0_sumOfSamples_0 (by decide) ?_
  refine lv_istore_n (lv' := [(1, .int 0), (0, .ref (X.2.2 c0))]) C.1.1 C.1.2.1 dX0_sumOfSamples_1 rfl hl (by decide) rfl (fun ls hl => ?_)
  refine lv_iconst (v := 0) C.1.1 C.1.2.1 dX0_sumOfSamples_2 (by decide) ?_
  refine lv_istore_n (lv' := [(2, .int 0), (1, .int 0), (0, .ref (X.2.2 c0))]) C.1.1 C.1.2.1 dX0_sumOfSamples_3 rfl hl (by decide) rfl (fun ls hl => ?_)
  exact (w_X0_sumOfSamples_4 l hinj hZ C out c0 i0 N) 0 0 S H locs ls hf hw (lv_sub hl [2, 1, 0] rfl)
def f_X0_leastPlace_49 (c0 : Nat) (k7 : Int32 → Int32 → Int32 → S2 → Option (Int32 × S2)) (N : Nat) (x2 : Int32) (x3 : Int32) (x4 : Int32) (S : S2) : Option (Int32 × S2) := k7 x2 x3 (x4 + 1) S
def f_X0_leastPlace_7 (c0 : Nat) : Nat → Int32 → Int32 → Int32 → S2 → Option (Int32 × S2)
  | 0, _, _, _, _ => none
  | N + 1, x2, x3, x4, S => (if x2 < x4 then rI x3 S else bI (f_X0_has N S c0 x4) fun v16 S16 => (if v16 = 0 then (f_X0_leastPlace_49 c0 (f_X0_leastPlace_7 c0 N) N) x2 x3 x4 S16 else bI (f_X0_has N S16 c0 x3) fun v24 S24 => (if v24 = 0 then (f_X0_leastPlace_49 c0 (f_X0_leastPlace_7 c0 N) N) x2 x3 x4 S24 else aI S24 (c0 + 1) 48 x4 fun v36 => aI S24 (c0 + 1) 48 x3 fun v42 => (if v42 ≤ v36 then (f_X0_leastPlace_49 c0 (f_X0_leastPlace_7 c0 N) N) x2 x3 x4 S24 else (f_X0_leastPlace_49 c0 (f_X0_leastPlace_7 c0 N) N) x2 x4 x4 S24))))
def f_X0_leastPlace (N : Nat) (S : S2) (c0 : Nat) (a1 : Int32) (a2 : Int32) : Option (Int32 × S2) := (f_X0_leastPlace_7 c0 N) a2 a1 (a1 + 1) S
abbrev rmX0_leastPlace : Room := { frames := 1, cells := 0, slots := 0, locals := 21 }
theorem hd_X0_leastPlace : yX0_leastPlace.cls ≠ "java/lang/invoke/MethodHandle" ∧ yX0_leastPlace.cls ≠ "java/lang/invoke/VarHandle" ∧ (parseMethodDescriptor yX0_leastPlace.desc).map (fun d => d.parameters.length) = some 2 := by decide +kernel
set_option maxRecDepth 100000 in
set_option maxHeartbeats 4000000 in
theorem w_X0_leastPlace_49 {p : Program} (l : Launch) {e : Env} {s : State} {m : MethodId} {args : Array Value} {below : List Frame} {meth : Method} {c : Code} {X : XT} (hinj : XInj X nC) (hZ : ZOK (Zc X)) (C : CX p s m args meth c cX0_leastPlace 5 RX0 (some .int) X nC (Zc X)) (out : Int32 × S2) (c0 : Nat) (i0 : Is0 c0) (k7 : Int32 → Int32 → Int32 → S2 → Option (Int32 × S2)) (hk7 : ∀ (x2 : Int32) (x3 : Int32) (x4 : Int32) (S : S2) (H : Heap) (locs : List Loc) (ls : Array Slot), k7 x2 x3 x4 S = some out → WH X shC nC s S H locs → lv_has ls 5 [(0, .ref (X.2.2 c0)), (2, .int x2), (3, .int x3), (4, .int x4)] → W p l e rmX0_leastPlace s m args below meth c H locs 0 0 (QI X shC nC s args below out) (F0 m 7 ls [])) : ∀ (N : Nat), ∀ (x2 : Int32) (x3 : Int32) (x4 : Int32) (S : S2) (H : Heap) (locs : List Loc) (ls : Array Slot), f_X0_leastPlace_49 c0 k7 N x2 x3 x4 S = some out → WH X shC nC s S H locs → lv_has ls 5 [(0, .ref (X.2.2 c0)), (2, .int x2), (3, .int x3), (4, .int x4)] → W p l e rmX0_leastPlace s m args below meth c H locs 0 0 (QI X shC nC s args below out) (F0 m 49 ls []) := by
  intro N x2 x3 x4 S H locs ls hf hw hl
  unfold f_X0_leastPlace_49 at hf
  refine lv_iinc (v := (x4 + 1)) (lv' := [(4, .int (x4 + 1)), (0, .ref (X.2.2 c0)), (2, .int x2), (3, .int x3)]) C.1.1 C.1.2.1 dX0_leastPlace_49 hl (k := 3) rfl (by rfl) (by decide) rfl (fun ls hl => ?_)
  refine lv_goto (tgt := 7) C.1.1 C.1.2.1 dX0_leastPlace_52 (by decide) ?_
  exact hk7 x2 x3 (x4 + 1) S H locs ls hf hw (lv_sub hl [1, 2, 3, 0] rfl)
set_option maxRecDepth 100000 in
set_option maxHeartbeats 4000000 in
theorem w_X0_leastPlace_7 {p : Program} (l : Launch) {e : Env} {s : State} {m : MethodId} {args : Array Value} {below : List Frame} {meth : Method} {c : Code} {X : XT} (hinj : XInj X nC) (hZ : ZOK (Zc X)) (C : CX p s m args meth c cX0_leastPlace 5 RX0 (some .int) X nC (Zc X)) (out : Int32 × S2) (c0 : Nat) (i0 : Is0 c0) : ∀ (N : Nat), ∀ (x2 : Int32) (x3 : Int32) (x4 : Int32) (S : S2) (H : Heap) (locs : List Loc) (ls : Array Slot), f_X0_leastPlace_7 c0 N x2 x3 x4 S = some out → WH X shC nC s S H locs → lv_has ls 5 [(0, .ref (X.2.2 c0)), (2, .int x2), (3, .int x3), (4, .int x4)] → W p l e rmX0_leastPlace s m args below meth c H locs 0 0 (QI X shC nC s args below out) (F0 m 7 ls []) := by
  intro N
  induction N with
  | zero => intro x2 x3 x4 S H locs ls hf hw hl; cases hf
  | succ N ih =>
    intro x2 x3 x4 S H locs ls hf hw hl
    rw [f_X0_leastPlace_7.eq_2] at hf
    refine lv_iload C.1.1 C.1.2.1 dX0_leastPlace_7 (lv_at hl 3 rfl) ?_
    refine lv_iload_n C.1.1 C.1.2.1 dX0_leastPlace_9 rfl (lv_at hl 1 rfl) ?_
    refine r_icmp_gt C (tgt := 55) dX0_leastPlace_10 (by decide) hf (fun hf => ?_) (fun hf => ?_)
    · refine lv_iload_n C.1.1 C.1.2.1 dX0_leastPlace_55 rfl (lv_at hl 2 rfl) ?_
      exact r_retI C hw dX0_leastPlace_56 hf
    · refine lv_aload_n C.1.1 C.1.2.1 dX0_leastPlace_13 rfl (lv_at hl 0 rfl) ?_
      refine lv_iload C.1.1 C.1.2.1 dX0_leastPlace_14 (lv_at hl 3 rfl) ?_
      refine r_callI (As := [.int x4]) (rest := []) (rm := rmX0_has) C hw (is0_s i0) (is0_l i0) cO0 tw3_168 tw3_145 tw3_146 tw1_4 tw3_147 hd_X0_has rfl ⟨⟨rfl, rfl⟩, Nat.le_of_ble_eq_true rfl, Nat.le_of_ble_eq_true rfl⟩ hl.1 rfl (Nat.le_of_ble_eq_true rfl) dX0_leastPlace_16 hf (fun o ho => c_X0_has l X hinj hZ N S c0 x4 i0 o ho) (fun v16 S16 H locs hf hw => ?_)
      refine r_if_eq C (tgt := 49) dX0_leastPlace_19 (by decide) hf (fun hf => ?_) (fun hf => ?_)
      · exact (w_X0_leastPlace_49 l hinj hZ C out c0 i0 (f_X0_leastPlace_7 c0 N) ih N) x2 x3 x4 S16 H locs ls hf hw (lv_sub hl [0, 1, 2, 3] rfl)
      · refine lv_aload_n C.1.1 C.1.2.1 dX0_leastPlace_22 rfl (lv_at hl 0 rfl) ?_
        refine lv_iload_n C.1.1 C.1.2.1 dX0_leastPlace_23 rfl (lv_at hl 2 rfl) ?_
        refine r_callI (As := [.int x3]) (rest := []) (rm := rmX0_has) C hw (is0_s i0) (is0_l i0) cO0 tw3_168 tw3_145 tw3_146 tw1_4 tw3_147 hd_X0_has rfl ⟨⟨rfl, rfl⟩, Nat.le_of_ble_eq_true rfl, Nat.le_of_ble_eq_true rfl⟩ hl.1 rfl (Nat.le_of_ble_eq_true rfl) dX0_leastPlace_24 hf (fun o ho => c_X0_has l X hinj hZ N S16 c0 x3 i0 o ho) (fun v24 S24 H locs hf hw => ?_)
        refine r_if_eq C (tgt := 49) dX0_leastPlace_27 (by decide) hf (fun hf => ?_) (fun hf => ?_)
        · exact (w_X0_leastPlace_49 l hinj hZ C out c0 i0 (f_X0_leastPlace_7 c0 N) ih N) x2 x3 x4 S24 H locs ls hf hw (lv_sub hl [0, 1, 2, 3] rfl)
        · refine lv_aload_n C.1.1 C.1.2.1 dX0_leastPlace_30 rfl (lv_at hl 0 rfl) ?_
          refine r_getR (k := 0) C hw (is0_s i0) (is0_l i0) cO0 rfl (by decide) tw1_85 rfl dX0_leastPlace_31 ?_
          refine lv_iload C.1.1 C.1.2.1 dX0_leastPlace_34 (lv_at hl 3 rfl) ?_
          refine r_iald C hw (is0_s1 i0) (is0_l1 i0) dX0_leastPlace_36 hf (fun v36 hf => ?_)
          refine lv_aload_n C.1.1 C.1.2.1 dX0_leastPlace_37 rfl (lv_at hl 0 rfl) ?_
          refine r_getR (k := 0) C hw (is0_s i0) (is0_l i0) cO0 rfl (by decide) tw1_85 rfl dX0_leastPlace_38 ?_
          refine lv_iload_n C.1.1 C.1.2.1 dX0_leastPlace_41 rfl (lv_at hl 2 rfl) ?_
          refine r_iald C hw (is0_s1 i0) (is0_l1 i0) dX0_leastPlace_42 hf (fun v42 hf => ?_)
          refine r_icmp_ge C (tgt := 49) dX0_leastPlace_43 (by decide) hf (fun hf => ?_) (fun hf => ?_)
          · exact (w_X0_leastPlace_49 l hinj hZ C out c0 i0 (f_X0_leastPlace_7 c0 N) ih N) x2 x3 x4 S24 H locs ls hf hw (lv_sub hl [0, 1, 2, 3] rfl)
          · refine lv_iload C.1.1 C.1.2.1 dX0_leastPlace_46 (lv_at hl 3 rfl) ?_
            refine lv_istore_n (lv' := [(3, .int x4), (0, .ref (X.2.2 c0)), (2, .int x2), (4, .int x4)]) C.1.1 C.1.2.1 dX0_leastPlace_48 rfl hl (by decide) rfl (fun ls hl => ?_)
            exact (w_X0_leastPlace_49 l hinj hZ C out c0 i0 (f_X0_leastPlace_7 c0 N) ih N) x2 x4 x4 S24 H locs ls hf hw (lv_sub hl [1, 2, 0, 3] rfl)
set_option maxRecDepth 100000 in
set_option maxHeartbeats 4000000 in
theorem c_X0_leastPlace (l : Launch) (X : XT) (hinj : XInj X nC) (hZ : ZOK (Zc X)) (N : Nat) (S : S2) (c0 : Nat) (a1 : Int32) (a2 : Int32) (i0 : Is0 c0) (out : Int32 × S2) (hf : f_X0_leastPlace N S c0 a1 a2 = some out) : MI l X shC nC (Zc X) yX0_leastPlace cX0_leastPlace 5 (some .int) rmX0_leastPlace [.ref (X.2.2 c0), .int a1, .int a2] S out := by
  refine met_I (own := RX0) (by decide) rfl hinj hZ (Nat.le_of_ble_eq_true rfl) (fun p e s m args below meth c C ls H locs hw hl => ?_)
  unfold f_X0_leastPlace at hf
  have hl : lv_has ls 5 [(0, .ref (X.2.2 c0)), (1, .int a1), (2, .int a2)] := hl
  refine lv_iload_n C.1.1 C.1.2.1 dX0_leastPlace_0 rfl (lv_at hl 1 rfl) ?_
  refine lv_istore_n (lv' := [(3, .int a1), (0, .ref (X.2.2 c0)), (1, .int a1), (2, .int a2)]) C.1.1 C.1.2.1 dX0_leastPlace_1 rfl hl (by decide) rfl (fun ls hl => ?_)
  refine lv_iload_n C.1.1 C.1.2.1 dX0_leastPlace_2 rfl (lv_at hl 2 rfl) ?_
  refine lv_iconst (v := 1) C.1.1 C.1.2.1 dX0_leastPlace_3 (by decide) ?_
  refine lv_iadd C.1.1 C.1.2.1 dX0_leastPlace_4 ?_
  refine lv_istore (lv' := [(4, .int (a1 + 1)), (3, .int a1), (0, .ref (X.2.2 c0)), (1, .int a1), (2, .int a2)]) C.1.1 C.1.2.1 dX0_leastPlace_5 hl (by decide) rfl (fun ls hl => ?_)
  exact (w_X0_leastPlace_7 l hinj hZ C out c0 i0 N) a2 a1 (a1 + 1) S H locs ls hf hw (lv_sub hl [2, 4, 1, 0] rfl)
def f_X0_runStart_2 (c0 : Nat) : Nat → Int32 → Int32 → S2 → Option (Int32 × S2)
  | 0, _, _, _ => none
  | N + 1, x2, x3, S => (if x3 ≤ 0 then rI x3 S else gI S c0 1 fun v8 => (if v8 < x3 then rI x3 S else aI S (c0 + 1) 48 (x3 - 1) fun v21 => (if v21 < x2 then rI x3 S else (f_X0_runStart_2 c0 N) x2 (x3 + (-1)) S)))
def f_X0_runStart (N : Nat) (S : S2) (c0 : Nat) (a1 : Int32) (a2 : Int32) : Option (Int32 × S2) := (f_X0_runStart_2 c0 N) a2 a1 S
abbrev rmX0_runStart : Room := { frames := 0, cells := 0, slots := 0, locals := 0 }
theorem hd_X0_runStart : yX0_runStart.cls ≠ "java/lang/invoke/MethodHandle" ∧ yX0_runStart.cls ≠ "java/lang/invoke/VarHandle" ∧ (parseMethodDescriptor yX0_runStart.desc).map (fun d => d.parameters.length) = some 2 := by decide +kernel
set_option maxRecDepth 100000 in
set_option maxHeartbeats 4000000 in
theorem w_X0_runStart_2 {p : Program} (l : Launch) {e : Env} {s : State} {m : MethodId} {args : Array Value} {below : List Frame} {meth : Method} {c : Code} {X : XT} (hinj : XInj X nC) (hZ : ZOK (Zc X)) (C : CX p s m args meth c cX0_runStart 4 RX0 (some .int) X nC (Zc X)) (out : Int32 × S2) (c0 : Nat) (i0 : Is0 c0) : ∀ (N : Nat), ∀ (x2 : Int32) (x3 : Int32) (S : S2) (H : Heap) (locs : List Loc) (ls : Array Slot), f_X0_runStart_2 c0 N x2 x3 S = some out → WH X shC nC s S H locs → lv_has ls 4 [(0, .ref (X.2.2 c0)), (2, .int x2), (3, .int x3)] → W p l e rmX0_runStart s m args below meth c H locs 0 0 (QI X shC nC s args below out) (F0 m 2 ls []) := by
  intro N
  induction N with
  | zero => intro x2 x3 S H locs ls hf hw hl; cases hf
  | succ N ih =>
    intro x2 x3 S H locs ls hf hw hl
    rw [f_X0_runStart_2.eq_2] at hf
    refine lv_iload_n C.1.1 C.1.2.1 dX0_runStart_2 rfl (lv_at hl 2 rfl) ?_
    refine r_if_le C (tgt := 32) dX0_runStart_3 (by decide) hf (fun hf => ?_) (fun hf => ?_)
    · refine lv_iload_n C.1.1 C.1.2.1 dX0_runStart_32 rfl (lv_at hl 2 rfl) ?_
      exact r_retI C hw dX0_runStart_33 hf
    · refine lv_iload_n C.1.1 C.1.2.1 dX0_runStart_6 rfl (lv_at hl 2 rfl) ?_
      refine lv_aload_n C.1.1 C.1.2.1 dX0_runStart_7 rfl (lv_at hl 0 rfl) ?_
      refine r_getI (k := 1) C hw (is0_s i0) (is0_l i0) cO0 rfl (by decide) tw1_89 rfl dX0_runStart_8 hf (fun v8 hf => ?_)
      refine r_icmp_gt C (tgt := 32) dX0_runStart_11 (by decide) hf (fun hf => ?_) (fun hf => ?_)
      · refine lv_iload_n C.1.1 C.1.2.1 dX0_runStart_32 rfl (lv_at hl 2 rfl) ?_
        exact r_retI C hw dX0_runStart_33 hf
      · refine lv_aload_n C.1.1 C.1.2.1 dX0_runStart_14 rfl (lv_at hl 0 rfl) ?_
        refine r_getR (k := 0) C hw (is0_s i0) (is0_l i0) cO0 rfl (by decide) tw1_85 rfl dX0_runStart_15 ?_
        refine lv_iload_n C.1.1 C.1.2.1 dX0_runStart_18 rfl (lv_at hl 2 rfl) ?_
        refine lv_iconst (v := 1) C.1.1 C.1.2.1 dX0_runStart_19 (by decide) ?_
        refine lv_isub C.1.1 C.1.2.1 dX0_runStart_20 ?_
        refine r_iald C hw (is0_s1 i0) (is0_l1 i0) dX0_runStart_21 hf (fun v21 hf => ?_)
        refine lv_iload_n C.1.1 C.1.2.1 dX0_runStart_22 rfl (lv_at hl 1 rfl) ?_
        refine r_icmp_lt C (tgt := 32) dX0_runStart_23 (by decide) hf (fun hf => ?_) (fun hf => ?_)
        · refine lv_iload_n C.1.1 C.1.2.1 dX0_runStart_32 rfl (lv_at hl 2 rfl) ?_
          exact r_retI C hw dX0_runStart_33 hf
        · refine lv_iinc (v := (x3 + (-1))) (lv' := [(3, .int (x3 + (-1))), (0, .ref (X.2.2 c0)), (2, .int x2)]) C.1.1 C.1.2.1 dX0_runStart_26 hl (k := 2) rfl (by rfl) (by decide) rfl (fun ls hl => ?_)
          refine lv_goto (tgt := 2) C.1.1 C.1.2.1 dX0_runStart_29 (by decide) ?_
          exact ih x2 (x3 + (-1)) S H locs ls hf hw (lv_sub hl [1, 2, 0] rfl)
set_option maxRecDepth 100000 in
set_option maxHeartbeats 4000000 in
theorem c_X0_runStart (l : Launch) (X : XT) (hinj : XInj X nC) (hZ : ZOK (Zc X)) (N : Nat) (S : S2) (c0 : Nat) (a1 : Int32) (a2 : Int32) (i0 : Is0 c0) (out : Int32 × S2) (hf : f_X0_runStart N S c0 a1 a2 = some out) : MI l X shC nC (Zc X) yX0_runStart cX0_runStart 4 (some .int) rmX0_runStart [.ref (X.2.2 c0), .int a1, .int a2] S out := by
  refine met_I (own := RX0) (by decide) rfl hinj hZ (Nat.le_of_ble_eq_true rfl) (fun p e s m args below meth c C ls H locs hw hl => ?_)
  unfold f_X0_runStart at hf
  have hl : lv_has ls 4 [(0, .ref (X.2.2 c0)), (1, .int a1), (2, .int a2)] := hl
  refine lv_iload_n C.1.1 C.1.2.1 dX0_runStart_0 rfl (lv_at hl 1 rfl) ?_
  refine lv_istore_n (lv' := [(3, .int a1), (0, .ref (X.2.2 c0)), (1, .int a1), (2, .int a2)]) C.1.1 C.1.2.1 dX0_runStart_1 rfl hl (by decide) rfl (fun ls hl => ?_)
  exact (w_X0_runStart_2 l hinj hZ C out c0 i0 N) a2 a1 S H locs ls hf hw (lv_sub hl [1, 3, 0] rfl)
def f_X0_runEnd_2 (c0 : Nat) : Nat → Int32 → Int32 → S2 → Option (Int32 × S2)
  | 0, _, _, _ => none
  | N + 1, x2, x3, S => (if x3 < 0 then rI x3 S else gI S c0 1 fun v10 => (if v10 ≤ (x3 + 1) then rI x3 S else aI S (c0 + 1) 48 (x3 + 1) fun v23 => (if v23 < x2 then rI x3 S else (f_X0_runEnd_2 c0 N) x2 (x3 + 1) S)))
def f_X0_runEnd (N : Nat) (S : S2) (c0 : Nat) (a1 : Int32) (a2 : Int32) : Option (Int32 × S2) := (f_X0_runEnd_2 c0 N) a2 a1 S
abbrev rmX0_runEnd : Room := { frames := 0, cells := 0, slots := 0, locals := 0 }
theorem hd_X0_runEnd : yX0_runEnd.cls ≠ "java/lang/invoke/MethodHandle" ∧ yX0_runEnd.cls ≠ "java/lang/invoke/VarHandle" ∧ (parseMethodDescriptor yX0_runEnd.desc).map (fun d => d.parameters.length) = some 2 := by decide +kernel
set_option maxRecDepth 100000 in
set_option maxHeartbeats 4000000 in
theorem w_X0_runEnd_2 {p : Program} (l : Launch) {e : Env} {s : State} {m : MethodId} {args : Array Value} {below : List Frame} {meth : Method} {c : Code} {X : XT} (hinj : XInj X nC) (hZ : ZOK (Zc X)) (C : CX p s m args meth c cX0_runEnd 4 RX0 (some .int) X nC (Zc X)) (out : Int32 × S2) (c0 : Nat) (i0 : Is0 c0) : ∀ (N : Nat), ∀ (x2 : Int32) (x3 : Int32) (S : S2) (H : Heap) (locs : List Loc) (ls : Array Slot), f_X0_runEnd_2 c0 N x2 x3 S = some out → WH X shC nC s S H locs → lv_has ls 4 [(0, .ref (X.2.2 c0)), (2, .int x2), (3, .int x3)] → W p l e rmX0_runEnd s m args below meth c H locs 0 0 (QI X shC nC s args below out) (F0 m 2 ls []) := by
  intro N
  induction N with
  | zero => intro x2 x3 S H locs ls hf hw hl; cases hf
  | succ N ih =>
    intro x2 x3 S H locs ls hf hw hl
    rw [f_X0_runEnd_2.eq_2] at hf
    refine lv_iload_n C.1.1 C.1.2.1 dX0_runEnd_2 rfl (lv_at hl 2 rfl) ?_
    refine r_if_lt C (tgt := 34) dX0_runEnd_3 (by decide) hf (fun hf => ?_) (fun hf => ?_)
    · refine lv_iload_n C.1.1 C.1.2.1 dX0_runEnd_34 rfl (lv_at hl 2 rfl) ?_
      exact r_retI C hw dX0_runEnd_35 hf
    · refine lv_iload_n C.1.1 C.1.2.1 dX0_runEnd_6 rfl (lv_at hl 2 rfl) ?_
      refine lv_iconst (v := 1) C.1.1 C.1.2.1 dX0_runEnd_7 (by decide) ?_
      refine lv_iadd C.1.1 C.1.2.1 dX0_runEnd_8 ?_
      refine lv_aload_n C.1.1 C.1.2.1 dX0_runEnd_9 rfl (lv_at hl 0 rfl) ?_
      refine r_getI (k := 1) C hw (is0_s i0) (is0_l i0) cO0 rfl (by decide) tw1_89 rfl dX0_runEnd_10 hf (fun v10 hf => ?_)
      refine r_icmp_ge C (tgt := 34) dX0_runEnd_13 (by decide) hf (fun hf => ?_) (fun hf => ?_)
      · refine lv_iload_n C.1.1 C.1.2.1 dX0_runEnd_34 rfl (lv_at hl 2 rfl) ?_
        exact r_retI C hw dX0_runEnd_35 hf
      · refine lv_aload_n C.1.1 C.1.2.1 dX0_runEnd_16 rfl (lv_at hl 0 rfl) ?_
        refine r_getR (k := 0) C hw (is0_s i0) (is0_l i0) cO0 rfl (by decide) tw1_85 rfl dX0_runEnd_17 ?_
        refine lv_iload_n C.1.1 C.1.2.1 dX0_runEnd_20 rfl (lv_at hl 2 rfl) ?_
        refine lv_iconst (v := 1) C.1.1 C.1.2.1 dX0_runEnd_21 (by decide) ?_
        refine lv_iadd C.1.1 C.1.2.1 dX0_runEnd_22 ?_
        refine r_iald C hw (is0_s1 i0) (is0_l1 i0) dX0_runEnd_23 hf (fun v23 hf => ?_)
        refine lv_iload_n C.1.1 C.1.2.1 dX0_runEnd_24 rfl (lv_at hl 1 rfl) ?_
        refine r_icmp_lt C (tgt := 34) dX0_runEnd_25 (by decide) hf (fun hf => ?_) (fun hf => ?_)
        · refine lv_iload_n C.1.1 C.1.2.1 dX0_runEnd_34 rfl (lv_at hl 2 rfl) ?_
          exact r_retI C hw dX0_runEnd_35 hf
        · refine lv_iinc (v := (x3 + 1)) (lv' := [(3, .int (x3 + 1)), (0, .ref (X.2.2 c0)), (2, .int x2)]) C.1.1 C.1.2.1 dX0_runEnd_28 hl (k := 2) rfl (by rfl) (by decide) rfl (fun ls hl => ?_)
          refine lv_goto (tgt := 2) C.1.1 C.1.2.1 dX0_runEnd_31 (by decide) ?_
          exact ih x2 (x3 + 1) S H locs ls hf hw (lv_sub hl [1, 2, 0] rfl)
set_option maxRecDepth 100000 in
set_option maxHeartbeats 4000000 in
theorem c_X0_runEnd (l : Launch) (X : XT) (hinj : XInj X nC) (hZ : ZOK (Zc X)) (N : Nat) (S : S2) (c0 : Nat) (a1 : Int32) (a2 : Int32) (i0 : Is0 c0) (out : Int32 × S2) (hf : f_X0_runEnd N S c0 a1 a2 = some out) : MI l X shC nC (Zc X) yX0_runEnd cX0_runEnd 4 (some .int) rmX0_runEnd [.ref (X.2.2 c0), .int a1, .int a2] S out := by
  refine met_I (own := RX0) (by decide) rfl hinj hZ (Nat.le_of_ble_eq_true rfl) (fun p e s m args below meth c C ls H locs hw hl => ?_)
  unfold f_X0_runEnd at hf
  have hl : lv_has ls 4 [(0, .ref (X.2.2 c0)), (1, .int a1), (2, .int a2)] := hl
  refine lv_iload_n C.1.1 C.1.2.1 dX0_runEnd_0 rfl (lv_at hl 1 rfl) ?_
  refine lv_istore_n (lv' := [(3, .int a1), (0, .ref (X.2.2 c0)), (1, .int a1), (2, .int a2)]) C.1.1 C.1.2.1 dX0_runEnd_1 rfl hl (by decide) rfl (fun ls hl => ?_)
  exact (w_X0_runEnd_2 l hinj hZ C out c0 i0 N) a2 a1 S H locs ls hf hw (lv_sub hl [1, 3, 0] rfl)
def f_X0_inBounds (N : Nat) (S : S2) (c0 : Nat) (a1 : Int32) (a2 : Int32) (a3 : Int32) : Option (Int32 × S2) := (if a1 = 4 then (if a2 < 0 then rZ 0 S else (if 999 < a2 then rZ 0 S else rZ 1 S)) else (if a1 = 5 then (if a2 < (-999) then rZ 0 S else (if 999 < a2 then rZ 0 S else rZ 1 S)) else (if a1 = 6 then (if a2 < 0 then rZ 0 S else (if 99 < a2 then rZ 0 S else (if a3 < 1 then rZ 0 S else (if 99 < a3 then rZ 0 S else rZ 1 S)))) else (if a1 = 7 then (if a3 < 0 then rZ 0 S else (if 999 < a3 then rZ 0 S else rZ 1 S)) else (if a1 = 8 then (if a2 < 0 then rZ 0 S else (if 999 < a2 then rZ 0 S else rZ 1 S)) else (if a1 = 9 then (if a3 < 1 then rZ 0 S else gI S c0 1 fun v128 => (if (v128 - a2) < a3 then rZ 0 S else rZ 1 S)) else rZ 1 S))))))
abbrev rmX0_inBounds : Room := { frames := 0, cells := 0, slots := 0, locals := 0 }
theorem hd_X0_inBounds : yX0_inBounds.cls ≠ "java/lang/invoke/MethodHandle" ∧ yX0_inBounds.cls ≠ "java/lang/invoke/VarHandle" ∧ (parseMethodDescriptor yX0_inBounds.desc).map (fun d => d.parameters.length) = some 3 := by decide +kernel
set_option maxRecDepth 100000 in
set_option maxHeartbeats 4000000 in
theorem c_X0_inBounds (l : Launch) (X : XT) (hinj : XInj X nC) (hZ : ZOK (Zc X)) (N : Nat) (S : S2) (c0 : Nat) (a1 : Int32) (a2 : Int32) (a3 : Int32) (i0 : Is0 c0) (out : Int32 × S2) (hf : f_X0_inBounds N S c0 a1 a2 a3 = some out) : MI l X shC nC (Zc X) yX0_inBounds cX0_inBounds 4 (some .boolean) rmX0_inBounds [.ref (X.2.2 c0), .int a1, .int a2, .int a3] S out := by
  refine met_I (own := RX0) (by decide) rfl hinj hZ (Nat.le_of_ble_eq_true rfl) (fun p e s m args below meth c C ls H locs hw hl => ?_)
  unfold f_X0_inBounds at hf
  have hl : lv_has ls 4 [(0, .ref (X.2.2 c0)), (1, .int a1), (2, .int a2), (3, .int a3)] := hl
  refine lv_iload_n C.1.1 C.1.2.1 dX0_inBounds_0 rfl (lv_at hl 1 rfl) ?_
  rcases ite_some hf with ⟨hc1_4, hf⟩ | ⟨hc1_4, hf⟩
  · refine lv_tableIn (tgt := 40) C.1.1 C.1.2.1 dX0_inBounds_1 (by rw [hc1_4]; decide) (by rw [hc1_4]; decide) (by rw [hc1_4]; rfl) (by decide) ?_
    refine lv_iload_n C.1.1 C.1.2.1 dX0_inBounds_40 rfl (lv_at hl 2 rfl) ?_
    refine r_if_lt C (tgt := 55) dX0_inBounds_41 (by decide) hf (fun hf => ?_) (fun hf => ?_)
    · refine lv_iconst (v := 0) C.1.1 C.1.2.1 dX0_inBounds_55 (by decide) ?_
      exact r_retZ C hw dX0_inBounds_56 hf
    · refine lv_iload_n C.1.1 C.1.2.1 dX0_inBounds_44 rfl (lv_at hl 2 rfl) ?_
      refine lv_sipush (v := 999) C.1.1 C.1.2.1 dX0_inBounds_45 (by decide) ?_
      refine r_icmp_gt C (tgt := 55) dX0_inBounds_48 (by decide) hf (fun hf => ?_) (fun hf => ?_)
      · refine lv_iconst (v := 0) C.1.1 C.1.2.1 dX0_inBounds_55 (by decide) ?_
        exact r_retZ C hw dX0_inBounds_56 hf
      · refine lv_iconst (v := 1) C.1.1 C.1.2.1 dX0_inBounds_51 (by decide) ?_
        refine lv_goto (tgt := 56) C.1.1 C.1.2.1 dX0_inBounds_52 (by decide) ?_
        exact r_retZ C hw dX0_inBounds_56 hf
  · skip
    rcases ite_some hf with ⟨hc1_5, hf⟩ | ⟨hc1_5, hf⟩
    · refine lv_tableIn (tgt := 57) C.1.1 C.1.2.1 dX0_inBounds_1 (by rw [hc1_5]; decide) (by rw [hc1_5]; decide) (by rw [hc1_5]; rfl) (by decide) ?_
      refine lv_iload_n C.1.1 C.1.2.1 dX0_inBounds_57 rfl (lv_at hl 2 rfl) ?_
      refine lv_sipush (v := (-999)) C.1.1 C.1.2.1 dX0_inBounds_58 (by decide) ?_
      refine r_icmp_lt C (tgt := 75) dX0_inBounds_61 (by decide) hf (fun hf => ?_) (fun hf => ?_)
      · refine lv_iconst (v := 0) C.1.1 C.1.2.1 dX0_inBounds_75 (by decide) ?_
        exact r_retZ C hw dX0_inBounds_76 hf
      · refine lv_iload_n C.1.1 C.1.2.1 dX0_inBounds_64 rfl (lv_at hl 2 rfl) ?_
        refine lv_sipush (v := 999) C.1.1 C.1.2.1 dX0_inBounds_65 (by decide) ?_
        refine r_icmp_gt C (tgt := 75) dX0_inBounds_68 (by decide) hf (fun hf => ?_) (fun hf => ?_)
        · refine lv_iconst (v := 0) C.1.1 C.1.2.1 dX0_inBounds_75 (by decide) ?_
          exact r_retZ C hw dX0_inBounds_76 hf
        · refine lv_iconst (v := 1) C.1.1 C.1.2.1 dX0_inBounds_71 (by decide) ?_
          refine lv_goto (tgt := 76) C.1.1 C.1.2.1 dX0_inBounds_72 (by decide) ?_
          exact r_retZ C hw dX0_inBounds_76 hf
    · skip
      rcases ite_some hf with ⟨hc1_6, hf⟩ | ⟨hc1_6, hf⟩
      · refine lv_tableIn (tgt := 77) C.1.1 C.1.2.1 dX0_inBounds_1 (by rw [hc1_6]; decide) (by rw [hc1_6]; decide) (by rw [hc1_6]; rfl) (by decide) ?_
        refine lv_iload_n C.1.1 C.1.2.1 dX0_inBounds_77 rfl (lv_at hl 2 rfl) ?_
        refine r_if_lt C (tgt := 102) dX0_inBounds_78 (by decide) hf (fun hf => ?_) (fun hf => ?_)
        · refine lv_iconst (v := 0) C.1.1 C.1.2.1 dX0_inBounds_102 (by decide) ?_
          exact r_retZ C hw dX0_inBounds_103 hf
        · refine lv_iload_n C.1.1 C.1.2.1 dX0_inBounds_81 rfl (lv_at hl 2 rfl) ?_
          refine lv_bipush (v := 99) C.1.1 C.1.2.1 dX0_inBounds_82 (by decide) ?_
          refine r_icmp_gt C (tgt := 102) dX0_inBounds_84 (by decide) hf (fun hf => ?_) (fun hf => ?_)
          · refine lv_iconst (v := 0) C.1.1 C.1.2.1 dX0_inBounds_102 (by decide) ?_
            exact r_retZ C hw dX0_inBounds_103 hf
          · refine lv_iload_n C.1.1 C.1.2.1 dX0_inBounds_87 rfl (lv_at hl 3 rfl) ?_
            refine lv_iconst (v := 1) C.1.1 C.1.2.1 dX0_inBounds_88 (by decide) ?_
            refine r_icmp_lt C (tgt := 102) dX0_inBounds_89 (by decide) hf (fun hf => ?_) (fun hf => ?_)
            · refine lv_iconst (v := 0) C.1.1 C.1.2.1 dX0_inBounds_102 (by decide) ?_
              exact r_retZ C hw dX0_inBounds_103 hf
            · refine lv_iload_n C.1.1 C.1.2.1 dX0_inBounds_92 rfl (lv_at hl 3 rfl) ?_
              refine lv_bipush (v := 99) C.1.1 C.1.2.1 dX0_inBounds_93 (by decide) ?_
              refine r_icmp_gt C (tgt := 102) dX0_inBounds_95 (by decide) hf (fun hf => ?_) (fun hf => ?_)
              · refine lv_iconst (v := 0) C.1.1 C.1.2.1 dX0_inBounds_102 (by decide) ?_
                exact r_retZ C hw dX0_inBounds_103 hf
              · refine lv_iconst (v := 1) C.1.1 C.1.2.1 dX0_inBounds_98 (by decide) ?_
                refine lv_goto (tgt := 103) C.1.1 C.1.2.1 dX0_inBounds_99 (by decide) ?_
                exact r_retZ C hw dX0_inBounds_103 hf
      · skip
        rcases ite_some hf with ⟨hc1_7, hf⟩ | ⟨hc1_7, hf⟩
        · refine lv_tableIn (tgt := 104) C.1.1 C.1.2.1 dX0_inBounds_1 (by rw [hc1_7]; decide) (by rw [hc1_7]; decide) (by rw [hc1_7]; rfl) (by decide) ?_
          refine lv_iload_n C.1.1 C.1.2.1 dX0_inBounds_104 rfl (lv_at hl 3 rfl) ?_
          refine r_if_lt C (tgt := 119) dX0_inBounds_105 (by decide) hf (fun hf => ?_) (fun hf => ?_)
          · refine lv_iconst (v := 0) C.1.1 C.1.2.1 dX0_inBounds_119 (by decide) ?_
            exact r_retZ C hw dX0_inBounds_120 hf
          · refine lv_iload_n C.1.1 C.1.2.1 dX0_inBounds_108 rfl (lv_at hl 3 rfl) ?_
            refine lv_sipush (v := 999) C.1.1 C.1.2.1 dX0_inBounds_109 (by decide) ?_
            refine r_icmp_gt C (tgt := 119) dX0_inBounds_112 (by decide) hf (fun hf => ?_) (fun hf => ?_)
            · refine lv_iconst (v := 0) C.1.1 C.1.2.1 dX0_inBounds_119 (by decide) ?_
              exact r_retZ C hw dX0_inBounds_120 hf
            · refine lv_iconst (v := 1) C.1.1 C.1.2.1 dX0_inBounds_115 (by decide) ?_
              refine lv_goto (tgt := 120) C.1.1 C.1.2.1 dX0_inBounds_116 (by decide) ?_
              exact r_retZ C hw dX0_inBounds_120 hf
        · skip
          rcases ite_some hf with ⟨hc1_8, hf⟩ | ⟨hc1_8, hf⟩
          · refine lv_tableIn (tgt := 40) C.1.1 C.1.2.1 dX0_inBounds_1 (by rw [hc1_8]; decide) (by rw [hc1_8]; decide) (by rw [hc1_8]; rfl) (by decide) ?_
            refine lv_iload_n C.1.1 C.1.2.1 dX0_inBounds_40 rfl (lv_at hl 2 rfl) ?_
            refine r_if_lt C (tgt := 55) dX0_inBounds_41 (by decide) hf (fun hf => ?_) (fun hf => ?_)
            · refine lv_iconst (v := 0) C.1.1 C.1.2.1 dX0_inBounds_55 (by decide) ?_
              exact r_retZ C hw dX0_inBounds_56 hf
            · refine lv_iload_n C.1.1 C.1.2.1 dX0_inBounds_44 rfl (lv_at hl 2 rfl) ?_
              refine lv_sipush (v := 999) C.1.1 C.1.2.1 dX0_inBounds_45 (by decide) ?_
              refine r_icmp_gt C (tgt := 55) dX0_inBounds_48 (by decide) hf (fun hf => ?_) (fun hf => ?_)
              · refine lv_iconst (v := 0) C.1.1 C.1.2.1 dX0_inBounds_55 (by decide) ?_
                exact r_retZ C hw dX0_inBounds_56 hf
              · refine lv_iconst (v := 1) C.1.1 C.1.2.1 dX0_inBounds_51 (by decide) ?_
                refine lv_goto (tgt := 56) C.1.1 C.1.2.1 dX0_inBounds_52 (by decide) ?_
                exact r_retZ C hw dX0_inBounds_56 hf
          · skip
            rcases ite_some hf with ⟨hc1_9, hf⟩ | ⟨hc1_9, hf⟩
            · refine lv_tableIn (tgt := 121) C.1.1 C.1.2.1 dX0_inBounds_1 (by rw [hc1_9]; decide) (by rw [hc1_9]; decide) (by rw [hc1_9]; rfl) (by decide) ?_
              refine lv_iload_n C.1.1 C.1.2.1 dX0_inBounds_121 rfl (lv_at hl 3 rfl) ?_
              refine lv_iconst (v := 1) C.1.1 C.1.2.1 dX0_inBounds_122 (by decide) ?_
              refine r_icmp_lt C (tgt := 140) dX0_inBounds_123 (by decide) hf (fun hf => ?_) (fun hf => ?_)
              · refine lv_iconst (v := 0) C.1.1 C.1.2.1 dX0_inBounds_140 (by decide) ?_
                exact r_retZ C hw dX0_inBounds_141 hf
              · refine lv_iload_n C.1.1 C.1.2.1 dX0_inBounds_126 rfl (lv_at hl 3 rfl) ?_
                refine lv_aload_n C.1.1 C.1.2.1 dX0_inBounds_127 rfl (lv_at hl 0 rfl) ?_
                refine r_getI (k := 1) C hw (is0_s i0) (is0_l i0) cO0 rfl (by decide) tw1_89 rfl dX0_inBounds_128 hf (fun v128 hf => ?_)
                refine lv_iload_n C.1.1 C.1.2.1 dX0_inBounds_131 rfl (lv_at hl 2 rfl) ?_
                refine lv_isub C.1.1 C.1.2.1 dX0_inBounds_132 ?_
                refine r_icmp_gt C (tgt := 140) dX0_inBounds_133 (by decide) hf (fun hf => ?_) (fun hf => ?_)
                · refine lv_iconst (v := 0) C.1.1 C.1.2.1 dX0_inBounds_140 (by decide) ?_
                  exact r_retZ C hw dX0_inBounds_141 hf
                · refine lv_iconst (v := 1) C.1.1 C.1.2.1 dX0_inBounds_136 (by decide) ?_
                  refine lv_goto (tgt := 141) C.1.1 C.1.2.1 dX0_inBounds_137 (by decide) ?_
                  exact r_retZ C hw dX0_inBounds_141 hf
            · skip
              refine lv_tableOut (tgt := 142) C.1.1 C.1.2.1 dX0_inBounds_1 (by have h0 := sw_ne hc1_4 (z := 4) rfl; have h1 := sw_ne hc1_5 (z := 5) rfl; have h2 := sw_ne hc1_6 (z := 6) rfl; have h3 := sw_ne hc1_7 (z := 7) rfl; have h4 := sw_ne hc1_8 (z := 8) rfl; have h5 := sw_ne hc1_9 (z := 9) rfl; omega) (by decide) ?_
              refine lv_iconst (v := 1) C.1.1 C.1.2.1 dX0_inBounds_142 (by decide) ?_
              exact r_retZ C hw dX0_inBounds_143 hf
def f_X0_middle (N : Nat) (S : S2) (a0 : Int32) (a1 : Int32) (a2 : Int32) : Option (Int32 × S2) := rI (mxI (mnI a0 a1) (mnI (mxI a0 a1) a2)) S
abbrev rmX0_middle : Room := { frames := 1, cells := 0, slots := 0, locals := 21 }
theorem hd_X0_middle : yX0_middle.cls ≠ "java/lang/invoke/MethodHandle" ∧ yX0_middle.cls ≠ "java/lang/invoke/VarHandle" ∧ (parseMethodDescriptor yX0_middle.desc).map (fun d => d.parameters.length) = some 3 := by decide +kernel
set_option maxRecDepth 100000 in
set_option maxHeartbeats 4000000 in
theorem c_X0_middle (l : Launch) (X : XT) (hinj : XInj X nC) (hZ : ZOK (Zc X)) (N : Nat) (S : S2) (a0 : Int32) (a1 : Int32) (a2 : Int32) (out : Int32 × S2) (hf : f_X0_middle N S a0 a1 a2 = some out) : MI l X shC nC (Zc X) yX0_middle cX0_middle 5 (some .int) rmX0_middle [.int a0, .int a1, .int a2] S out := by
  refine met_I (own := RX0) (by decide) rfl hinj hZ (Nat.le_of_ble_eq_true rfl) (fun p e s m args below meth c C ls H locs hw hl => ?_)
  unfold f_X0_middle at hf
  have hl : lv_has ls 5 [(0, .int a0), (1, .int a1), (2, .int a2)] := hl
  refine lv_iload_n C.1.1 C.1.2.1 dX0_middle_0 rfl (lv_at hl 0 rfl) ?_
  refine lv_iload_n C.1.1 C.1.2.1 dX0_middle_1 rfl (lv_at hl 1 rfl) ?_
  refine r_min C tw3_135 tw3_81 tw1_18 tw3_82 hl.1 (Nat.le_of_ble_eq_true rfl) (Nat.le_of_ble_eq_true rfl) dX0_middle_2 ?_
  refine lv_istore_n (lv' := [(3, .int (mnI a0 a1)), (0, .int a0), (1, .int a1), (2, .int a2)]) C.1.1 C.1.2.1 dX0_middle_5 rfl hl (by decide) rfl (fun ls hl => ?_)
  refine lv_iload_n C.1.1 C.1.2.1 dX0_middle_6 rfl (lv_at hl 1 rfl) ?_
  refine lv_iload_n C.1.1 C.1.2.1 dX0_middle_7 rfl (lv_at hl 2 rfl) ?_
  refine r_max C tw4_17 tw3_84 tw1_18 tw3_85 hl.1 (Nat.le_of_ble_eq_true rfl) (Nat.le_of_ble_eq_true rfl) dX0_middle_8 ?_
  refine lv_istore (lv' := [(4, .int (mxI a0 a1)), (3, .int (mnI a0 a1)), (0, .int a0), (1, .int a1), (2, .int a2)]) C.1.1 C.1.2.1 dX0_middle_11 hl (by decide) rfl (fun ls hl => ?_)
  refine lv_iload_n C.1.1 C.1.2.1 dX0_middle_13 rfl (lv_at hl 1 rfl) ?_
  refine lv_iload C.1.1 C.1.2.1 dX0_middle_14 (lv_at hl 0 rfl) ?_
  refine lv_iload_n C.1.1 C.1.2.1 dX0_middle_16 rfl (lv_at hl 4 rfl) ?_
  refine r_min C tw3_135 tw3_81 tw1_18 tw3_82 hl.1 (Nat.le_of_ble_eq_true rfl) (Nat.le_of_ble_eq_true rfl) dX0_middle_17 ?_
  refine r_max C tw4_17 tw3_84 tw1_18 tw3_85 hl.1 (Nat.le_of_ble_eq_true rfl) (Nat.le_of_ble_eq_true rfl) dX0_middle_20 ?_
  exact r_retI C hw dX0_middle_23 hf
def f_X0_reverse_58 (c0 : Nat) (N : Nat) (S : S2) : Option (Int32 × S2) := aI S (c0 + 1) 48 0 fun v63 => rI v63 S
def f_X0_reverse_2 (c0 : Nat) (k58 : S2 → Option (Int32 × S2)) : Nat → Int32 → S2 → Option (Int32 × S2)
  | 0, _, _ => none
  | N + 1, x1, S => gI S c0 1 fun v4 => nz 2 <| (if (v4 / 2) ≤ x1 then k58 S else aI S (c0 + 1) 48 x1 fun v17 => gI S c0 1 fun v29 => aI S (c0 + 1) 48 ((v29 - 1) - x1) fun v36 => sI S (c0 + 1) 48 x1 v36 fun S37 => gI S37 c0 1 fun v43 => sI S37 (c0 + 1) 48 ((v43 - 1) - x1) v17 fun S51 => (f_X0_reverse_2 c0 k58 N) (x1 + 1) S51)
def f_X0_reverse (N : Nat) (S : S2) (c0 : Nat) : Option (Int32 × S2) := (f_X0_reverse_2 c0 (f_X0_reverse_58 c0 N) N) 0 S
abbrev rmX0_reverse : Room := { frames := 0, cells := 0, slots := 0, locals := 0 }
theorem hd_X0_reverse : yX0_reverse.cls ≠ "java/lang/invoke/MethodHandle" ∧ yX0_reverse.cls ≠ "java/lang/invoke/VarHandle" ∧ (parseMethodDescriptor yX0_reverse.desc).map (fun d => d.parameters.length) = some 0 := by decide +kernel
set_option maxRecDepth 100000 in
set_option maxHeartbeats 4000000 in
theorem w_X0_reverse_58 {p : Program} (l : Launch) {e : Env} {s : State} {m : MethodId} {args : Array Value} {below : List Frame} {meth : Method} {c : Code} {X : XT} (hinj : XInj X nC) (hZ : ZOK (Zc X)) (C : CX p s m args meth c cX0_reverse 3 RX0 (some .int) X nC (Zc X)) (out : Int32 × S2) (c0 : Nat) (i0 : Is0 c0) : ∀ (N : Nat), ∀ (S : S2) (H : Heap) (locs : List Loc) (ls : Array Slot), f_X0_reverse_58 c0 N S = some out → WH X shC nC s S H locs → lv_has ls 3 [(0, .ref (X.2.2 c0))] → W p l e rmX0_reverse s m args below meth c H locs 0 0 (QI X shC nC s args below out) (F0 m 58 ls []) := by
  intro N S H locs ls hf hw hl
  unfold f_X0_reverse_58 at hf
  refine lv_aload_n C.1.1 C.1.2.1 dX0_reverse_58 rfl (lv_at hl 0 rfl) ?_
  refine r_getR (k := 0) C hw (is0_s i0) (is0_l i0) cO0 rfl (by decide) tw1_85 rfl dX0_reverse_59 ?_
  refine lv_iconst (v := 0) C.1.1 C.1.2.1 dX0_reverse_62 (by decide) ?_
  refine r_iald C hw (is0_s1 i0) (is0_l1 i0) dX0_reverse_63 hf (fun v63 hf => ?_)
  exact r_retI C hw dX0_reverse_64 hf
set_option maxRecDepth 100000 in
set_option maxHeartbeats 4000000 in
theorem w_X0_reverse_2 {p : Program} (l : Launch) {e : Env} {s : State} {m : MethodId} {args : Array Value} {below : List Frame} {meth : Method} {c : Code} {X : XT} (hinj : XInj X nC) (hZ : ZOK (Zc X)) (C : CX p s m args meth c cX0_reverse 3 RX0 (some .int) X nC (Zc X)) (out : Int32 × S2) (c0 : Nat) (i0 : Is0 c0) (k58 : S2 → Option (Int32 × S2)) (hk58 : ∀ (S : S2) (H : Heap) (locs : List Loc) (ls : Array Slot), k58 S = some out → WH X shC nC s S H locs → lv_has ls 3 [(0, .ref (X.2.2 c0))] → W p l e rmX0_reverse s m args below meth c H locs 0 0 (QI X shC nC s args below out) (F0 m 58 ls [])) : ∀ (N : Nat), ∀ (x1 : Int32) (S : S2) (H : Heap) (locs : List Loc) (ls : Array Slot), f_X0_reverse_2 c0 k58 N x1 S = some out → WH X shC nC s S H locs → lv_has ls 3 [(0, .ref (X.2.2 c0)), (1, .int x1)] → W p l e rmX0_reverse s m args below meth c H locs 0 0 (QI X shC nC s args below out) (F0 m 2 ls []) := by
  intro N
  induction N with
  | zero => intro x1 S H locs ls hf hw hl; cases hf
  | succ N ih =>
    intro x1 S H locs ls hf hw hl
    rw [f_X0_reverse_2.eq_2] at hf
    refine lv_iload_n C.1.1 C.1.2.1 dX0_reverse_2 rfl (lv_at hl 1 rfl) ?_
    refine lv_aload_n C.1.1 C.1.2.1 dX0_reverse_3 rfl (lv_at hl 0 rfl) ?_
    refine r_getI (k := 1) C hw (is0_s i0) (is0_l i0) cO0 rfl (by decide) tw1_89 rfl dX0_reverse_4 hf (fun v4 hf => ?_)
    refine lv_iconst (v := 2) C.1.1 C.1.2.1 dX0_reverse_7 (by decide) ?_
    obtain ⟨hne, hf⟩ := nz_some hf
    refine lv_idiv C.1.1 C.1.2.1 dX0_reverse_8 hne ?_
    refine r_icmp_ge C (tgt := 58) dX0_reverse_9 (by decide) hf (fun hf => ?_) (fun hf => ?_)
    · exact hk58 S H locs ls hf hw (lv_sub hl [0] rfl)
    · refine lv_aload_n C.1.1 C.1.2.1 dX0_reverse_12 rfl (lv_at hl 0 rfl) ?_
      refine r_getR (k := 0) C hw (is0_s i0) (is0_l i0) cO0 rfl (by decide) tw1_85 rfl dX0_reverse_13 ?_
      refine lv_iload_n C.1.1 C.1.2.1 dX0_reverse_16 rfl (lv_at hl 1 rfl) ?_
      refine r_iald C hw (is0_s1 i0) (is0_l1 i0) dX0_reverse_17 hf (fun v17 hf => ?_)
      refine lv_istore_n (lv' := [(2, .int v17), (0, .ref (X.2.2 c0)), (1, .int x1)]) C.1.1 C.1.2.1 dX0_reverse_18 rfl hl (by decide) rfl (fun ls hl => ?_)
      refine lv_aload_n C.1.1 C.1.2.1 dX0_reverse_19 rfl (lv_at hl 1 rfl) ?_
      refine r_getR (k := 0) C hw (is0_s i0) (is0_l i0) cO0 rfl (by decide) tw1_85 rfl dX0_reverse_20 ?_
      refine lv_iload_n C.1.1 C.1.2.1 dX0_reverse_23 rfl (lv_at hl 2 rfl) ?_
      refine lv_aload_n C.1.1 C.1.2.1 dX0_reverse_24 rfl (lv_at hl 1 rfl) ?_
      refine r_getR (k := 0) C hw (is0_s i0) (is0_l i0) cO0 rfl (by decide) tw1_85 rfl dX0_reverse_25 ?_
      refine lv_aload_n C.1.1 C.1.2.1 dX0_reverse_28 rfl (lv_at hl 1 rfl) ?_
      refine r_getI (k := 1) C hw (is0_s i0) (is0_l i0) cO0 rfl (by decide) tw1_89 rfl dX0_reverse_29 hf (fun v29 hf => ?_)
      refine lv_iconst (v := 1) C.1.1 C.1.2.1 dX0_reverse_32 (by decide) ?_
      refine lv_isub C.1.1 C.1.2.1 dX0_reverse_33 ?_
      refine lv_iload_n C.1.1 C.1.2.1 dX0_reverse_34 rfl (lv_at hl 2 rfl) ?_
      refine lv_isub C.1.1 C.1.2.1 dX0_reverse_35 ?_
      refine r_iald C hw (is0_s1 i0) (is0_l1 i0) dX0_reverse_36 hf (fun v36 hf => ?_)
      refine r_iast C hw (is0_s1 i0) (is0_l1 i0) dX0_reverse_37 hf (fun S37 H locs hf hw => ?_)
      refine lv_aload_n C.1.1 C.1.2.1 dX0_reverse_38 rfl (lv_at hl 1 rfl) ?_
      refine r_getR (k := 0) C hw (is0_s i0) (is0_l i0) cO0 rfl (by decide) tw1_85 rfl dX0_reverse_39 ?_
      refine lv_aload_n C.1.1 C.1.2.1 dX0_reverse_42 rfl (lv_at hl 1 rfl) ?_
      refine r_getI (k := 1) C hw (is0_s i0) (is0_l i0) cO0 rfl (by decide) tw1_89 rfl dX0_reverse_43 hf (fun v43 hf => ?_)
      refine lv_iconst (v := 1) C.1.1 C.1.2.1 dX0_reverse_46 (by decide) ?_
      refine lv_isub C.1.1 C.1.2.1 dX0_reverse_47 ?_
      refine lv_iload_n C.1.1 C.1.2.1 dX0_reverse_48 rfl (lv_at hl 2 rfl) ?_
      refine lv_isub C.1.1 C.1.2.1 dX0_reverse_49 ?_
      refine lv_iload_n C.1.1 C.1.2.1 dX0_reverse_50 rfl (lv_at hl 0 rfl) ?_
      refine r_iast C hw (is0_s1 i0) (is0_l1 i0) dX0_reverse_51 hf (fun S51 H locs hf hw => ?_)
      refine lv_iinc (v := (x1 + 1)) (lv' := [(1, .int (x1 + 1)), (2, .int v17), (0, .ref (X.2.2 c0))]) C.1.1 C.1.2.1 dX0_reverse_52 hl (k := 2) rfl (by rfl) (by decide) rfl (fun ls hl => ?_)
      refine lv_goto (tgt := 2) C.1.1 C.1.2.1 dX0_reverse_55 (by decide) ?_
      exact ih (x1 + 1) S51 H locs ls hf hw (lv_sub hl [2, 0] rfl)
set_option maxRecDepth 100000 in
set_option maxHeartbeats 4000000 in
theorem c_X0_reverse (l : Launch) (X : XT) (hinj : XInj X nC) (hZ : ZOK (Zc X)) (N : Nat) (S : S2) (c0 : Nat) (i0 : Is0 c0) (out : Int32 × S2) (hf : f_X0_reverse N S c0 = some out) : MI l X shC nC (Zc X) yX0_reverse cX0_reverse 3 (some .int) rmX0_reverse [.ref (X.2.2 c0)] S out := by
  refine met_I (own := RX0) (by decide) rfl hinj hZ (Nat.le_of_ble_eq_true rfl) (fun p e s m args below meth c C ls H locs hw hl => ?_)
  unfold f_X0_reverse at hf
  have hl : lv_has ls 3 [(0, .ref (X.2.2 c0))] := hl
  refine lv_iconst (v := 0) C.1.1 C.1.2.1 dX0_reverse_0 (by decide) ?_
  refine lv_istore_n (lv' := [(1, .int 0), (0, .ref (X.2.2 c0))]) C.1.1 C.1.2.1 dX0_reverse_1 rfl hl (by decide) rfl (fun ls hl => ?_)
  exact (w_X0_reverse_2 l hinj hZ C out c0 i0 (f_X0_reverse_58 c0 N) (w_X0_reverse_58 l hinj hZ C out c0 i0 N) N) 0 S H locs ls hf hw (lv_sub hl [1, 0] rfl)
def f_X0_cap_32 (c0 : Nat) (k4 : Int32 → Int32 → Int32 → S2 → Option (Int32 × S2)) (N : Nat) (x1 : Int32) (x2 : Int32) (x3 : Int32) (S : S2) : Option (Int32 × S2) := k4 x1 x2 (x3 + 1) S
def f_X0_cap_4 (c0 : Nat) : Nat → Int32 → Int32 → Int32 → S2 → Option (Int32 × S2)
  | 0, _, _, _, _ => none
  | N + 1, x1, x2, x3, S => gI S c0 1 fun v6 => (if v6 ≤ x3 then rI x2 S else aI S (c0 + 1) 48 x3 fun v17 => (if v17 ≤ x1 then (f_X0_cap_32 c0 (f_X0_cap_4 c0 N) N) x1 x2 x3 S else sI S (c0 + 1) 48 x3 x1 fun S28 => (f_X0_cap_32 c0 (f_X0_cap_4 c0 N) N) x1 (x2 + 1) x3 S28))
def f_X0_cap (N : Nat) (S : S2) (c0 : Nat) (a1 : Int32) : Option (Int32 × S2) := (f_X0_cap_4 c0 N) a1 0 0 S
abbrev rmX0_cap : Room := { frames := 0, cells := 0, slots := 0, locals := 0 }
theorem hd_X0_cap : yX0_cap.cls ≠ "java/lang/invoke/MethodHandle" ∧ yX0_cap.cls ≠ "java/lang/invoke/VarHandle" ∧ (parseMethodDescriptor yX0_cap.desc).map (fun d => d.parameters.length) = some 1 := by decide +kernel
set_option maxRecDepth 100000 in
set_option maxHeartbeats 4000000 in
theorem w_X0_cap_32 {p : Program} (l : Launch) {e : Env} {s : State} {m : MethodId} {args : Array Value} {below : List Frame} {meth : Method} {c : Code} {X : XT} (hinj : XInj X nC) (hZ : ZOK (Zc X)) (C : CX p s m args meth c cX0_cap 4 RX0 (some .int) X nC (Zc X)) (out : Int32 × S2) (c0 : Nat) (i0 : Is0 c0) (k4 : Int32 → Int32 → Int32 → S2 → Option (Int32 × S2)) (hk4 : ∀ (x1 : Int32) (x2 : Int32) (x3 : Int32) (S : S2) (H : Heap) (locs : List Loc) (ls : Array Slot), k4 x1 x2 x3 S = some out → WH X shC nC s S H locs → lv_has ls 4 [(0, .ref (X.2.2 c0)), (1, .int x1), (2, .int x2), (3, .int x3)] → W p l e rmX0_cap s m args below meth c H locs 0 0 (QI X shC nC s args below out) (F0 m 4 ls [])) : ∀ (N : Nat), ∀ (x1 : Int32) (x2 : Int32) (x3 : Int32) (S : S2) (H : Heap) (locs : List Loc) (ls : Array Slot), f_X0_cap_32 c0 k4 N x1 x2 x3 S = some out → WH X shC nC s S H locs → lv_has ls 4 [(0, .ref (X.2.2 c0)), (1, .int x1), (2, .int x2), (3, .int x3)] → W p l e rmX0_cap s m args below meth c H locs 0 0 (QI X shC nC s args below out) (F0 m 32 ls []) := by
  intro N x1 x2 x3 S H locs ls hf hw hl
  unfold f_X0_cap_32 at hf
  refine lv_iinc (v := (x3 + 1)) (lv' := [(3, .int (x3 + 1)), (0, .ref (X.2.2 c0)), (1, .int x1), (2, .int x2)]) C.1.1 C.1.2.1 dX0_cap_32 hl (k := 3) rfl (by rfl) (by decide) rfl (fun ls hl => ?_)
  refine lv_goto (tgt := 4) C.1.1 C.1.2.1 dX0_cap_35 (by decide) ?_
  exact hk4 x1 x2 (x3 + 1) S H locs ls hf hw (lv_sub hl [1, 2, 3, 0] rfl)
set_option maxRecDepth 100000 in
set_option maxHeartbeats 4000000 in
theorem w_X0_cap_4 {p : Program} (l : Launch) {e : Env} {s : State} {m : MethodId} {args : Array Value} {below : List Frame} {meth : Method} {c : Code} {X : XT} (hinj : XInj X nC) (hZ : ZOK (Zc X)) (C : CX p s m args meth c cX0_cap 4 RX0 (some .int) X nC (Zc X)) (out : Int32 × S2) (c0 : Nat) (i0 : Is0 c0) : ∀ (N : Nat), ∀ (x1 : Int32) (x2 : Int32) (x3 : Int32) (S : S2) (H : Heap) (locs : List Loc) (ls : Array Slot), f_X0_cap_4 c0 N x1 x2 x3 S = some out → WH X shC nC s S H locs → lv_has ls 4 [(0, .ref (X.2.2 c0)), (1, .int x1), (2, .int x2), (3, .int x3)] → W p l e rmX0_cap s m args below meth c H locs 0 0 (QI X shC nC s args below out) (F0 m 4 ls []) := by
  intro N
  induction N with
  | zero => intro x1 x2 x3 S H locs ls hf hw hl; cases hf
  | succ N ih =>
    intro x1 x2 x3 S H locs ls hf hw hl
    rw [f_X0_cap_4.eq_2] at hf
    refine lv_iload_n C.1.1 C.1.2.1 dX0_cap_4 rfl (lv_at hl 3 rfl) ?_
    refine lv_aload_n C.1.1 C.1.2.1 dX0_cap_5 rfl (lv_at hl 0 rfl) ?_
    refine r_getI (k := 1) C hw (is0_s i0) (is0_l i0) cO0 rfl (by decide) tw1_89 rfl dX0_cap_6 hf (fun v6 hf => ?_)
    refine r_icmp_ge C (tgt := 38) dX0_cap_9 (by decide) hf (fun hf => ?_) (fun hf => ?_)
    · refine lv_iload_n C.1.1 C.1.2.1 dX0_cap_38 rfl (lv_at hl 2 rfl) ?_
      exact r_retI C hw dX0_cap_39 hf
    · refine lv_aload_n C.1.1 C.1.2.1 dX0_cap_12 rfl (lv_at hl 0 rfl) ?_
      refine r_getR (k := 0) C hw (is0_s i0) (is0_l i0) cO0 rfl (by decide) tw1_85 rfl dX0_cap_13 ?_
      refine lv_iload_n C.1.1 C.1.2.1 dX0_cap_16 rfl (lv_at hl 3 rfl) ?_
      refine r_iald C hw (is0_s1 i0) (is0_l1 i0) dX0_cap_17 hf (fun v17 hf => ?_)
      refine lv_iload_n C.1.1 C.1.2.1 dX0_cap_18 rfl (lv_at hl 1 rfl) ?_
      refine r_icmp_le C (tgt := 32) dX0_cap_19 (by decide) hf (fun hf => ?_) (fun hf => ?_)
      · exact (w_X0_cap_32 l hinj hZ C out c0 i0 (f_X0_cap_4 c0 N) ih N) x1 x2 x3 S H locs ls hf hw (lv_sub hl [0, 1, 2, 3] rfl)
      · refine lv_aload_n C.1.1 C.1.2.1 dX0_cap_22 rfl (lv_at hl 0 rfl) ?_
        refine r_getR (k := 0) C hw (is0_s i0) (is0_l i0) cO0 rfl (by decide) tw1_85 rfl dX0_cap_23 ?_
        refine lv_iload_n C.1.1 C.1.2.1 dX0_cap_26 rfl (lv_at hl 3 rfl) ?_
        refine lv_iload_n C.1.1 C.1.2.1 dX0_cap_27 rfl (lv_at hl 1 rfl) ?_
        refine r_iast C hw (is0_s1 i0) (is0_l1 i0) dX0_cap_28 hf (fun S28 H locs hf hw => ?_)
        refine lv_iinc (v := (x2 + 1)) (lv' := [(2, .int (x2 + 1)), (0, .ref (X.2.2 c0)), (1, .int x1), (3, .int x3)]) C.1.1 C.1.2.1 dX0_cap_29 hl (k := 2) rfl (by rfl) (by decide) rfl (fun ls hl => ?_)
        exact (w_X0_cap_32 l hinj hZ C out c0 i0 (f_X0_cap_4 c0 N) ih N) x1 (x2 + 1) x3 S28 H locs ls hf hw (lv_sub hl [1, 2, 0, 3] rfl)
set_option maxRecDepth 100000 in
set_option maxHeartbeats 4000000 in
theorem c_X0_cap (l : Launch) (X : XT) (hinj : XInj X nC) (hZ : ZOK (Zc X)) (N : Nat) (S : S2) (c0 : Nat) (a1 : Int32) (i0 : Is0 c0) (out : Int32 × S2) (hf : f_X0_cap N S c0 a1 = some out) : MI l X shC nC (Zc X) yX0_cap cX0_cap 4 (some .int) rmX0_cap [.ref (X.2.2 c0), .int a1] S out := by
  refine met_I (own := RX0) (by decide) rfl hinj hZ (Nat.le_of_ble_eq_true rfl) (fun p e s m args below meth c C ls H locs hw hl => ?_)
  unfold f_X0_cap at hf
  have hl : lv_has ls 4 [(0, .ref (X.2.2 c0)), (1, .int a1)] := hl
  refine lv_iconst (v := 0) C.1.1 C.1.2.1 dX0_cap_0 (by decide) ?_
  refine lv_istore_n (lv' := [(2, .int 0), (0, .ref (X.2.2 c0)), (1, .int a1)]) C.1.1 C.1.2.1 dX0_cap_1 rfl hl (by decide) rfl (fun ls hl => ?_)
  refine lv_iconst (v := 0) C.1.1 C.1.2.1 dX0_cap_2 (by decide) ?_
  refine lv_istore_n (lv' := [(3, .int 0), (2, .int 0), (0, .ref (X.2.2 c0)), (1, .int a1)]) C.1.1 C.1.2.1 dX0_cap_3 rfl hl (by decide) rfl (fun ls hl => ?_)
  exact (w_X0_cap_4 l hinj hZ C out c0 i0 N) a1 0 0 S H locs ls hf hw (lv_sub hl [2, 3, 1, 0] rfl)
def f_X0_raise_40 (c0 : Nat) (N : Nat) (S : S2) : Option (Int32 × S2) := bI (f_X0_leastSample N S c0) fun v41 S41 => rI v41 S41
def f_X0_raise_2 (c0 : Nat) (k40 : S2 → Option (Int32 × S2)) : Nat → Int32 → Int32 → S2 → Option (Int32 × S2)
  | 0, _, _, _ => none
  | N + 1, x1, x2, S => gI S c0 1 fun v4 => (if v4 ≤ x2 then k40 S else aI S (c0 + 1) 48 x2 fun v24 => sI S (c0 + 1) 48 x2 (mxI 0 (mnI 999 (v24 + x1))) fun S33 => (f_X0_raise_2 c0 k40 N) x1 (x2 + 1) S33)
def f_X0_raise (N : Nat) (S : S2) (c0 : Nat) (a1 : Int32) : Option (Int32 × S2) := (f_X0_raise_2 c0 (f_X0_raise_40 c0 N) N) a1 0 S
abbrev rmX0_raise : Room := { frames := 2, cells := 0, slots := 0, locals := 43 }
theorem hd_X0_raise : yX0_raise.cls ≠ "java/lang/invoke/MethodHandle" ∧ yX0_raise.cls ≠ "java/lang/invoke/VarHandle" ∧ (parseMethodDescriptor yX0_raise.desc).map (fun d => d.parameters.length) = some 1 := by decide +kernel
set_option maxRecDepth 100000 in
set_option maxHeartbeats 4000000 in
theorem w_X0_raise_40 {p : Program} (l : Launch) {e : Env} {s : State} {m : MethodId} {args : Array Value} {below : List Frame} {meth : Method} {c : Code} {X : XT} (hinj : XInj X nC) (hZ : ZOK (Zc X)) (C : CX p s m args meth c cX0_raise 3 RX0 (some .int) X nC (Zc X)) (out : Int32 × S2) (c0 : Nat) (i0 : Is0 c0) : ∀ (N : Nat), ∀ (S : S2) (H : Heap) (locs : List Loc) (ls : Array Slot), f_X0_raise_40 c0 N S = some out → WH X shC nC s S H locs → lv_has ls 3 [(0, .ref (X.2.2 c0))] → W p l e rmX0_raise s m args below meth c H locs 0 0 (QI X shC nC s args below out) (F0 m 40 ls []) := by
  intro N S H locs ls hf hw hl
  unfold f_X0_raise_40 at hf
  refine lv_aload_n C.1.1 C.1.2.1 dX0_raise_40 rfl (lv_at hl 0 rfl) ?_
  refine r_callI (As := []) (rest := []) (rm := rmX0_leastSample) C hw (is0_s i0) (is0_l i0) cO0 tw4_39 tw3_132 tw3_133 tw1_4 tw3_134 hd_X0_leastSample rfl ⟨⟨rfl, rfl⟩, Nat.le_of_ble_eq_true rfl, Nat.le_of_ble_eq_true rfl⟩ hl.1 rfl (Nat.le_of_ble_eq_true rfl) dX0_raise_41 hf (fun o ho => c_X0_leastSample l X hinj hZ N S c0 i0 o ho) (fun v41 S41 H locs hf hw => ?_)
  exact r_retI C hw dX0_raise_44 hf
set_option maxRecDepth 100000 in
set_option maxHeartbeats 4000000 in
theorem w_X0_raise_2 {p : Program} (l : Launch) {e : Env} {s : State} {m : MethodId} {args : Array Value} {below : List Frame} {meth : Method} {c : Code} {X : XT} (hinj : XInj X nC) (hZ : ZOK (Zc X)) (C : CX p s m args meth c cX0_raise 3 RX0 (some .int) X nC (Zc X)) (out : Int32 × S2) (c0 : Nat) (i0 : Is0 c0) (k40 : S2 → Option (Int32 × S2)) (hk40 : ∀ (S : S2) (H : Heap) (locs : List Loc) (ls : Array Slot), k40 S = some out → WH X shC nC s S H locs → lv_has ls 3 [(0, .ref (X.2.2 c0))] → W p l e rmX0_raise s m args below meth c H locs 0 0 (QI X shC nC s args below out) (F0 m 40 ls [])) : ∀ (N : Nat), ∀ (x1 : Int32) (x2 : Int32) (S : S2) (H : Heap) (locs : List Loc) (ls : Array Slot), f_X0_raise_2 c0 k40 N x1 x2 S = some out → WH X shC nC s S H locs → lv_has ls 3 [(0, .ref (X.2.2 c0)), (1, .int x1), (2, .int x2)] → W p l e rmX0_raise s m args below meth c H locs 0 0 (QI X shC nC s args below out) (F0 m 2 ls []) := by
  intro N
  induction N with
  | zero => intro x1 x2 S H locs ls hf hw hl; cases hf
  | succ N ih =>
    intro x1 x2 S H locs ls hf hw hl
    rw [f_X0_raise_2.eq_2] at hf
    refine lv_iload_n C.1.1 C.1.2.1 dX0_raise_2 rfl (lv_at hl 2 rfl) ?_
    refine lv_aload_n C.1.1 C.1.2.1 dX0_raise_3 rfl (lv_at hl 0 rfl) ?_
    refine r_getI (k := 1) C hw (is0_s i0) (is0_l i0) cO0 rfl (by decide) tw1_89 rfl dX0_raise_4 hf (fun v4 hf => ?_)
    refine r_icmp_ge C (tgt := 40) dX0_raise_7 (by decide) hf (fun hf => ?_) (fun hf => ?_)
    · exact hk40 S H locs ls hf hw (lv_sub hl [0] rfl)
    · refine lv_aload_n C.1.1 C.1.2.1 dX0_raise_10 rfl (lv_at hl 0 rfl) ?_
      refine r_getR (k := 0) C hw (is0_s i0) (is0_l i0) cO0 rfl (by decide) tw1_85 rfl dX0_raise_11 ?_
      refine lv_iload_n C.1.1 C.1.2.1 dX0_raise_14 rfl (lv_at hl 2 rfl) ?_
      refine lv_iconst (v := 0) C.1.1 C.1.2.1 dX0_raise_15 (by decide) ?_
      refine lv_sipush (v := 999) C.1.1 C.1.2.1 dX0_raise_16 (by decide) ?_
      refine lv_aload_n C.1.1 C.1.2.1 dX0_raise_19 rfl (lv_at hl 0 rfl) ?_
      refine r_getR (k := 0) C hw (is0_s i0) (is0_l i0) cO0 rfl (by decide) tw1_85 rfl dX0_raise_20 ?_
      refine lv_iload_n C.1.1 C.1.2.1 dX0_raise_23 rfl (lv_at hl 2 rfl) ?_
      refine r_iald C hw (is0_s1 i0) (is0_l1 i0) dX0_raise_24 hf (fun v24 hf => ?_)
      refine lv_iload_n C.1.1 C.1.2.1 dX0_raise_25 rfl (lv_at hl 1 rfl) ?_
      refine lv_iadd C.1.1 C.1.2.1 dX0_raise_26 ?_
      refine r_min C tw3_135 tw3_81 tw1_18 tw3_82 hl.1 (Nat.le_of_ble_eq_true rfl) (Nat.le_of_ble_eq_true rfl) dX0_raise_27 ?_
      refine r_max C tw4_17 tw3_84 tw1_18 tw3_85 hl.1 (Nat.le_of_ble_eq_true rfl) (Nat.le_of_ble_eq_true rfl) dX0_raise_30 ?_
      refine r_iast C hw (is0_s1 i0) (is0_l1 i0) dX0_raise_33 hf (fun S33 H locs hf hw => ?_)
      refine lv_iinc (v := (x2 + 1)) (lv' := [(2, .int (x2 + 1)), (0, .ref (X.2.2 c0)), (1, .int x1)]) C.1.1 C.1.2.1 dX0_raise_34 hl (k := 2) rfl (by rfl) (by decide) rfl (fun ls hl => ?_)
      refine lv_goto (tgt := 2) C.1.1 C.1.2.1 dX0_raise_37 (by decide) ?_
      exact ih x1 (x2 + 1) S33 H locs ls hf hw (lv_sub hl [1, 2, 0] rfl)
set_option maxRecDepth 100000 in
set_option maxHeartbeats 4000000 in
theorem c_X0_raise (l : Launch) (X : XT) (hinj : XInj X nC) (hZ : ZOK (Zc X)) (N : Nat) (S : S2) (c0 : Nat) (a1 : Int32) (i0 : Is0 c0) (out : Int32 × S2) (hf : f_X0_raise N S c0 a1 = some out) : MI l X shC nC (Zc X) yX0_raise cX0_raise 3 (some .int) rmX0_raise [.ref (X.2.2 c0), .int a1] S out := by
  refine met_I (own := RX0) (by decide) rfl hinj hZ (Nat.le_of_ble_eq_true rfl) (fun p e s m args below meth c C ls H locs hw hl => ?_)
  unfold f_X0_raise at hf
  have hl : lv_has ls 3 [(0, .ref (X.2.2 c0)), (1, .int a1)] := hl
  refine lv_iconst (v := 0) C.1.1 C.1.2.1 dX0_raise_0 (by decide) ?_
  refine lv_istore_n (lv' := [(2, .int 0), (0, .ref (X.2.2 c0)), (1, .int a1)]) C.1.1 C.1.2.1 dX0_raise_1 rfl hl (by decide) rfl (fun ls hl => ?_)
  exact (w_X0_raise_2 l hinj hZ C out c0 i0 (f_X0_raise_40 c0 N) (w_X0_raise_40 l hinj hZ C out c0 i0 N) N) a1 0 S H locs ls hf hw (lv_sub hl [1, 2, 0] rfl)
def f_X0_stretch_42 (c0 : Nat) (N : Nat) (S : S2) : Option (Int32 × S2) := bI (f_X0_greatestSample N S c0) fun v43 S43 => rI v43 S43
def f_X0_stretch_2 (c0 : Nat) (k42 : S2 → Option (Int32 × S2)) : Nat → Int32 → Int32 → Int32 → S2 → Option (Int32 × S2)
  | 0, _, _, _, _ => none
  | N + 1, x1, x2, x3, S => (if x2 ≤ 0 then k42 S else gI S c0 1 fun v8 => (if v8 ≤ x3 then k42 S else aI S (c0 + 1) 48 x3 fun v27 => nz x2 <| sI S (c0 + 1) 48 x3 (mnI 999 ((v27 * x1) / x2)) fun S35 => (f_X0_stretch_2 c0 k42 N) x1 x2 (x3 + 1) S35))
def f_X0_stretch (N : Nat) (S : S2) (c0 : Nat) (a1 : Int32) (a2 : Int32) : Option (Int32 × S2) := (f_X0_stretch_2 c0 (f_X0_stretch_42 c0 N) N) a1 a2 0 S
abbrev rmX0_stretch : Room := { frames := 2, cells := 0, slots := 0, locals := 43 }
theorem hd_X0_stretch : yX0_stretch.cls ≠ "java/lang/invoke/MethodHandle" ∧ yX0_stretch.cls ≠ "java/lang/invoke/VarHandle" ∧ (parseMethodDescriptor yX0_stretch.desc).map (fun d => d.parameters.length) = some 2 := by decide +kernel
set_option maxRecDepth 100000 in
set_option maxHeartbeats 4000000 in
theorem w_X0_stretch_42 {p : Program} (l : Launch) {e : Env} {s : State} {m : MethodId} {args : Array Value} {below : List Frame} {meth : Method} {c : Code} {X : XT} (hinj : XInj X nC) (hZ : ZOK (Zc X)) (C : CX p s m args meth c cX0_stretch 4 RX0 (some .int) X nC (Zc X)) (out : Int32 × S2) (c0 : Nat) (i0 : Is0 c0) : ∀ (N : Nat), ∀ (S : S2) (H : Heap) (locs : List Loc) (ls : Array Slot), f_X0_stretch_42 c0 N S = some out → WH X shC nC s S H locs → lv_has ls 4 [(0, .ref (X.2.2 c0))] → W p l e rmX0_stretch s m args below meth c H locs 0 0 (QI X shC nC s args below out) (F0 m 42 ls []) := by
  intro N S H locs ls hf hw hl
  unfold f_X0_stretch_42 at hf
  refine lv_aload_n C.1.1 C.1.2.1 dX0_stretch_42 rfl (lv_at hl 0 rfl) ?_
  refine r_callI (As := []) (rest := []) (rm := rmX0_greatestSample) C hw (is0_s i0) (is0_l i0) cO0 tw4_44 tw4_45 tw4_46 tw1_4 tw4_47 hd_X0_greatestSample rfl ⟨⟨rfl, rfl⟩, Nat.le_of_ble_eq_true rfl, Nat.le_of_ble_eq_true rfl⟩ hl.1 rfl (Nat.le_of_ble_eq_true rfl) dX0_stretch_43 hf (fun o ho => c_X0_greatestSample l X hinj hZ N S c0 i0 o ho) (fun v43 S43 H locs hf hw => ?_)
  exact r_retI C hw dX0_stretch_46 hf
set_option maxRecDepth 100000 in
set_option maxHeartbeats 4000000 in
theorem w_X0_stretch_2 {p : Program} (l : Launch) {e : Env} {s : State} {m : MethodId} {args : Array Value} {below : List Frame} {meth : Method} {c : Code} {X : XT} (hinj : XInj X nC) (hZ : ZOK (Zc X)) (C : CX p s m args meth c cX0_stretch 4 RX0 (some .int) X nC (Zc X)) (out : Int32 × S2) (c0 : Nat) (i0 : Is0 c0) (k42 : S2 → Option (Int32 × S2)) (hk42 : ∀ (S : S2) (H : Heap) (locs : List Loc) (ls : Array Slot), k42 S = some out → WH X shC nC s S H locs → lv_has ls 4 [(0, .ref (X.2.2 c0))] → W p l e rmX0_stretch s m args below meth c H locs 0 0 (QI X shC nC s args below out) (F0 m 42 ls [])) : ∀ (N : Nat), ∀ (x1 : Int32) (x2 : Int32) (x3 : Int32) (S : S2) (H : Heap) (locs : List Loc) (ls : Array Slot), f_X0_stretch_2 c0 k42 N x1 x2 x3 S = some out → WH X shC nC s S H locs → lv_has ls 4 [(0, .ref (X.2.2 c0)), (1, .int x1), (2, .int x2), (3, .int x3)] → W p l e rmX0_stretch s m args below meth c H locs 0 0 (QI X shC nC s args below out) (F0 m 2 ls []) := by
  intro N
  induction N with
  | zero => intro x1 x2 x3 S H locs ls hf hw hl; cases hf
  | succ N ih =>
    intro x1 x2 x3 S H locs ls hf hw hl
    rw [f_X0_stretch_2.eq_2] at hf
    refine lv_iload_n C.1.1 C.1.2.1 dX0_stretch_2 rfl (lv_at hl 2 rfl) ?_
    refine r_if_le C (tgt := 42) dX0_stretch_3 (by decide) hf (fun hf => ?_) (fun hf => ?_)
    · exact hk42 S H locs ls hf hw (lv_sub hl [0] rfl)
    · refine lv_iload_n C.1.1 C.1.2.1 dX0_stretch_6 rfl (lv_at hl 3 rfl) ?_
      refine lv_aload_n C.1.1 C.1.2.1 dX0_stretch_7 rfl (lv_at hl 0 rfl) ?_
      refine r_getI (k := 1) C hw (is0_s i0) (is0_l i0) cO0 rfl (by decide) tw1_89 rfl dX0_stretch_8 hf (fun v8 hf => ?_)
      refine r_icmp_ge C (tgt := 42) dX0_stretch_11 (by decide) hf (fun hf => ?_) (fun hf => ?_)
      · exact hk42 S H locs ls hf hw (lv_sub hl [0] rfl)
      · refine lv_aload_n C.1.1 C.1.2.1 dX0_stretch_14 rfl (lv_at hl 0 rfl) ?_
        refine r_getR (k := 0) C hw (is0_s i0) (is0_l i0) cO0 rfl (by decide) tw1_85 rfl dX0_stretch_15 ?_
        refine lv_iload_n C.1.1 C.1.2.1 dX0_stretch_18 rfl (lv_at hl 3 rfl) ?_
        refine lv_sipush (v := 999) C.1.1 C.1.2.1 dX0_stretch_19 (by decide) ?_
        refine lv_aload_n C.1.1 C.1.2.1 dX0_stretch_22 rfl (lv_at hl 0 rfl) ?_
        refine r_getR (k := 0) C hw (is0_s i0) (is0_l i0) cO0 rfl (by decide) tw1_85 rfl dX0_stretch_23 ?_
        refine lv_iload_n C.1.1 C.1.2.1 dX0_stretch_26 rfl (lv_at hl 3 rfl) ?_
        refine r_iald C hw (is0_s1 i0) (is0_l1 i0) dX0_stretch_27 hf (fun v27 hf => ?_)
        refine lv_iload_n C.1.1 C.1.2.1 dX0_stretch_28 rfl (lv_at hl 1 rfl) ?_
        refine lv_imul C.1.1 C.1.2.1 dX0_stretch_29 ?_
        refine lv_iload_n C.1.1 C.1.2.1 dX0_stretch_30 rfl (lv_at hl 2 rfl) ?_
        obtain ⟨hne, hf⟩ := nz_some hf
        refine lv_idiv C.1.1 C.1.2.1 dX0_stretch_31 hne ?_
        refine r_min C tw3_135 tw3_81 tw1_18 tw3_82 hl.1 (Nat.le_of_ble_eq_true rfl) (Nat.le_of_ble_eq_true rfl) dX0_stretch_32 ?_
        refine r_iast C hw (is0_s1 i0) (is0_l1 i0) dX0_stretch_35 hf (fun S35 H locs hf hw => ?_)
        refine lv_iinc (v := (x3 + 1)) (lv' := [(3, .int (x3 + 1)), (0, .ref (X.2.2 c0)), (1, .int x1), (2, .int x2)]) C.1.1 C.1.2.1 dX0_stretch_36 hl (k := 3) rfl (by rfl) (by decide) rfl (fun ls hl => ?_)
        refine lv_goto (tgt := 2) C.1.1 C.1.2.1 dX0_stretch_39 (by decide) ?_
        exact ih x1 x2 (x3 + 1) S35 H locs ls hf hw (lv_sub hl [1, 2, 3, 0] rfl)
set_option maxRecDepth 100000 in
set_option maxHeartbeats 4000000 in
theorem c_X0_stretch (l : Launch) (X : XT) (hinj : XInj X nC) (hZ : ZOK (Zc X)) (N : Nat) (S : S2) (c0 : Nat) (a1 : Int32) (a2 : Int32) (i0 : Is0 c0) (out : Int32 × S2) (hf : f_X0_stretch N S c0 a1 a2 = some out) : MI l X shC nC (Zc X) yX0_stretch cX0_stretch 4 (some .int) rmX0_stretch [.ref (X.2.2 c0), .int a1, .int a2] S out := by
  refine met_I (own := RX0) (by decide) rfl hinj hZ (Nat.le_of_ble_eq_true rfl) (fun p e s m args below meth c C ls H locs hw hl => ?_)
  unfold f_X0_stretch at hf
  have hl : lv_has ls 4 [(0, .ref (X.2.2 c0)), (1, .int a1), (2, .int a2)] := hl
  refine lv_iconst (v := 0) C.1.1 C.1.2.1 dX0_stretch_0 (by decide) ?_
  refine lv_istore_n (lv' := [(3, .int 0), (0, .ref (X.2.2 c0)), (1, .int a1), (2, .int a2)]) C.1.1 C.1.2.1 dX0_stretch_1 rfl hl (by decide) rfl (fun ls hl => ?_)
  exact (w_X0_stretch_2 l hinj hZ C out c0 i0 (f_X0_stretch_42 c0 N) (w_X0_stretch_42 l hinj hZ C out c0 i0 N) N) a1 a2 0 S H locs ls hf hw (lv_sub hl [1, 2, 3, 0] rfl)
def f_X0_put (N : Nat) (S : S2) (c0 : Nat) (a1 : Int32) (a2 : Int32) : Option (Int32 × S2) := bI (f_X0_has N S c0 a1) fun v2 S2 => (if v2 = 0 then rI (-1) S2 else aI S2 (c0 + 1) 48 a1 fun v15 => sI S2 (c0 + 1) 48 a1 a2 fun S23 => rI v15 S23)
abbrev rmX0_put : Room := { frames := 1, cells := 0, slots := 0, locals := 21 }
theorem hd_X0_put : yX0_put.cls ≠ "java/lang/invoke/MethodHandle" ∧ yX0_put.cls ≠ "java/lang/invoke/VarHandle" ∧ (parseMethodDescriptor yX0_put.desc).map (fun d => d.parameters.length) = some 2 := by decide +kernel
set_option maxRecDepth 100000 in
set_option maxHeartbeats 4000000 in
theorem c_X0_put (l : Launch) (X : XT) (hinj : XInj X nC) (hZ : ZOK (Zc X)) (N : Nat) (S : S2) (c0 : Nat) (a1 : Int32) (a2 : Int32) (i0 : Is0 c0) (out : Int32 × S2) (hf : f_X0_put N S c0 a1 a2 = some out) : MI l X shC nC (Zc X) yX0_put cX0_put 4 (some .int) rmX0_put [.ref (X.2.2 c0), .int a1, .int a2] S out := by
  refine met_I (own := RX0) (by decide) rfl hinj hZ (Nat.le_of_ble_eq_true rfl) (fun p e s m args below meth c C ls H locs hw hl => ?_)
  unfold f_X0_put at hf
  have hl : lv_has ls 4 [(0, .ref (X.2.2 c0)), (1, .int a1), (2, .int a2)] := hl
  refine lv_aload_n C.1.1 C.1.2.1 dX0_put_0 rfl (lv_at hl 0 rfl) ?_
  refine lv_iload_n C.1.1 C.1.2.1 dX0_put_1 rfl (lv_at hl 1 rfl) ?_
  refine r_callI (As := [.int a1]) (rest := []) (rm := rmX0_has) C hw (is0_s i0) (is0_l i0) cO0 tw3_168 tw3_145 tw3_146 tw1_4 tw3_147 hd_X0_has rfl ⟨⟨rfl, rfl⟩, Nat.le_of_ble_eq_true rfl, Nat.le_of_ble_eq_true rfl⟩ hl.1 rfl (Nat.le_of_ble_eq_true rfl) dX0_put_2 hf (fun o ho => c_X0_has l X hinj hZ N S c0 a1 i0 o ho) (fun v2 S2 H locs hf hw => ?_)
  refine r_if_ne C (tgt := 10) dX0_put_5 (by decide) hf (fun hf => ?_) (fun hf => ?_)
  · refine lv_aload_n C.1.1 C.1.2.1 dX0_put_10 rfl (lv_at hl 0 rfl) ?_
    refine r_getR (k := 0) C hw (is0_s i0) (is0_l i0) cO0 rfl (by decide) tw1_85 rfl dX0_put_11 ?_
    refine lv_iload_n C.1.1 C.1.2.1 dX0_put_14 rfl (lv_at hl 1 rfl) ?_
    refine r_iald C hw (is0_s1 i0) (is0_l1 i0) dX0_put_15 hf (fun v15 hf => ?_)
    refine lv_istore_n (lv' := [(3, .int v15), (0, .ref (X.2.2 c0)), (1, .int a1), (2, .int a2)]) C.1.1 C.1.2.1 dX0_put_16 rfl hl (by decide) rfl (fun ls hl => ?_)
    refine lv_aload_n C.1.1 C.1.2.1 dX0_put_17 rfl (lv_at hl 1 rfl) ?_
    refine r_getR (k := 0) C hw (is0_s i0) (is0_l i0) cO0 rfl (by decide) tw1_85 rfl dX0_put_18 ?_
    refine lv_iload_n C.1.1 C.1.2.1 dX0_put_21 rfl (lv_at hl 2 rfl) ?_
    refine lv_iload_n C.1.1 C.1.2.1 dX0_put_22 rfl (lv_at hl 3 rfl) ?_
    refine r_iast C hw (is0_s1 i0) (is0_l1 i0) dX0_put_23 hf (fun S23 H locs hf hw => ?_)
    refine lv_iload_n C.1.1 C.1.2.1 dX0_put_24 rfl (lv_at hl 0 rfl) ?_
    exact r_retI C hw dX0_put_25 hf
  · refine lv_iconst (v := (-1)) C.1.1 C.1.2.1 dX0_put_8 (by decide) ?_
    exact r_retI C hw dX0_put_9 hf
def f_X0_hush (N : Nat) (S : S2) (c0 : Nat) (a1 : Int32) : Option (Int32 × S2) := gI S c0 2 fun v1 => uI S c0 2 a1 fun S7 => rI v1 S7
abbrev rmX0_hush : Room := { frames := 0, cells := 0, slots := 0, locals := 0 }
theorem hd_X0_hush : yX0_hush.cls ≠ "java/lang/invoke/MethodHandle" ∧ yX0_hush.cls ≠ "java/lang/invoke/VarHandle" ∧ (parseMethodDescriptor yX0_hush.desc).map (fun d => d.parameters.length) = some 1 := by decide +kernel
set_option maxRecDepth 100000 in
set_option maxHeartbeats 4000000 in
theorem c_X0_hush (l : Launch) (X : XT) (hinj : XInj X nC) (hZ : ZOK (Zc X)) (N : Nat) (S : S2) (c0 : Nat) (a1 : Int32) (i0 : Is0 c0) (out : Int32 × S2) (hf : f_X0_hush N S c0 a1 = some out) : MI l X shC nC (Zc X) yX0_hush cX0_hush 3 (some .int) rmX0_hush [.ref (X.2.2 c0), .int a1] S out := by
  refine met_I (own := RX0) (by decide) rfl hinj hZ (Nat.le_of_ble_eq_true rfl) (fun p e s m args below meth c C ls H locs hw hl => ?_)
  unfold f_X0_hush at hf
  have hl : lv_has ls 3 [(0, .ref (X.2.2 c0)), (1, .int a1)] := hl
  refine lv_aload_n C.1.1 C.1.2.1 dX0_hush_0 rfl (lv_at hl 0 rfl) ?_
  refine r_getI (k := 2) C hw (is0_s i0) (is0_l i0) cO0 rfl (by decide) tw1_93 rfl dX0_hush_1 hf (fun v1 hf => ?_)
  refine lv_istore_n (lv' := [(2, .int v1), (0, .ref (X.2.2 c0)), (1, .int a1)]) C.1.1 C.1.2.1 dX0_hush_4 rfl hl (by decide) rfl (fun ls hl => ?_)
  refine lv_aload_n C.1.1 C.1.2.1 dX0_hush_5 rfl (lv_at hl 1 rfl) ?_
  refine lv_iload_n C.1.1 C.1.2.1 dX0_hush_6 rfl (lv_at hl 2 rfl) ?_
  refine r_putI (k := 2) C hw (is0_s i0) (is0_l i0) cO0 rfl (by decide) tw1_93 rfl rfl rfl dX0_hush_7 hf (fun S7 H locs hf hw => ?_)
  refine lv_iload_n C.1.1 C.1.2.1 dX0_hush_10 rfl (lv_at hl 0 rfl) ?_
  exact r_retI C hw dX0_hush_11 hf
def f_X0_keepOnly_49 (c0 : Nat) (N : Nat) (x2 : Int32) (x3 : Int32) (S : S2) : Option (Int32 × S2) := uI S c0 1 x2 fun S51 => rI x3 S51
def f_X0_keepOnly_10 (c0 : Nat) (k49 : Int32 → Int32 → S2 → Option (Int32 × S2)) : Nat → Int32 → Int32 → Int32 → Int32 → S2 → Option (Int32 × S2)
  | 0, _, _, _, _, _ => none
  | N + 1, x1, x2, x3, x4, S => (if x2 ≤ x4 then k49 x2 x3 S else bI (f_X0_has N S c0 (x1 + x4)) fun v21 S21 => (if v21 = 0 then k49 x2 x3 S21 else aI S21 (c0 + 1) 48 (x1 + x4) fun v41 => sI S21 (c0 + 1) 48 x4 v41 fun S42 => (f_X0_keepOnly_10 c0 k49 N) x1 x2 x3 (x4 + 1) S42))
def f_X0_keepOnly (N : Nat) (S : S2) (c0 : Nat) (a1 : Int32) (a2 : Int32) : Option (Int32 × S2) := gI S c0 1 fun v1 => (f_X0_keepOnly_10 c0 (f_X0_keepOnly_49 c0 N) N) a1 a2 (v1 - a2) 0 S
abbrev rmX0_keepOnly : Room := { frames := 1, cells := 0, slots := 0, locals := 21 }
theorem hd_X0_keepOnly : yX0_keepOnly.cls ≠ "java/lang/invoke/MethodHandle" ∧ yX0_keepOnly.cls ≠ "java/lang/invoke/VarHandle" ∧ (parseMethodDescriptor yX0_keepOnly.desc).map (fun d => d.parameters.length) = some 2 := by decide +kernel
set_option maxRecDepth 100000 in
set_option maxHeartbeats 4000000 in
theorem w_X0_keepOnly_49 {p : Program} (l : Launch) {e : Env} {s : State} {m : MethodId} {args : Array Value} {below : List Frame} {meth : Method} {c : Code} {X : XT} (hinj : XInj X nC) (hZ : ZOK (Zc X)) (C : CX p s m args meth c cX0_keepOnly 5 RX0 (some .int) X nC (Zc X)) (out : Int32 × S2) (c0 : Nat) (i0 : Is0 c0) : ∀ (N : Nat), ∀ (x2 : Int32) (x3 : Int32) (S : S2) (H : Heap) (locs : List Loc) (ls : Array Slot), f_X0_keepOnly_49 c0 N x2 x3 S = some out → WH X shC nC s S H locs → lv_has ls 5 [(0, .ref (X.2.2 c0)), (2, .int x2), (3, .int x3)] → W p l e rmX0_keepOnly s m args below meth c H locs 0 0 (QI X shC nC s args below out) (F0 m 49 ls []) := by
  intro N x2 x3 S H locs ls hf hw hl
  unfold f_X0_keepOnly_49 at hf
  refine lv_aload_n C.1.1 C.1.2.1 dX0_keepOnly_49 rfl (lv_at hl 0 rfl) ?_
  refine lv_iload_n C.1.1 C.1.2.1 dX0_keepOnly_50 rfl (lv_at hl 1 rfl) ?_
  refine r_putI (k := 1) C hw (is0_s i0) (is0_l i0) cO0 rfl (by decide) tw1_89 rfl rfl rfl dX0_keepOnly_51 hf (fun S51 H locs hf hw => ?_)
  refine lv_iload_n C.1.1 C.1.2.1 dX0_keepOnly_54 rfl (lv_at hl 2 rfl) ?_
  exact r_retI C hw dX0_keepOnly_55 hf
set_option maxRecDepth 100000 in
set_option maxHeartbeats 4000000 in
theorem w_X0_keepOnly_10 {p : Program} (l : Launch) {e : Env} {s : State} {m : MethodId} {args : Array Value} {below : List Frame} {meth : Method} {c : Code} {X : XT} (hinj : XInj X nC) (hZ : ZOK (Zc X)) (C : CX p s m args meth c cX0_keepOnly 5 RX0 (some .int) X nC (Zc X)) (out : Int32 × S2) (c0 : Nat) (i0 : Is0 c0) (k49 : Int32 → Int32 → S2 → Option (Int32 × S2)) (hk49 : ∀ (x2 : Int32) (x3 : Int32) (S : S2) (H : Heap) (locs : List Loc) (ls : Array Slot), k49 x2 x3 S = some out → WH X shC nC s S H locs → lv_has ls 5 [(0, .ref (X.2.2 c0)), (2, .int x2), (3, .int x3)] → W p l e rmX0_keepOnly s m args below meth c H locs 0 0 (QI X shC nC s args below out) (F0 m 49 ls [])) : ∀ (N : Nat), ∀ (x1 : Int32) (x2 : Int32) (x3 : Int32) (x4 : Int32) (S : S2) (H : Heap) (locs : List Loc) (ls : Array Slot), f_X0_keepOnly_10 c0 k49 N x1 x2 x3 x4 S = some out → WH X shC nC s S H locs → lv_has ls 5 [(0, .ref (X.2.2 c0)), (1, .int x1), (2, .int x2), (3, .int x3), (4, .int x4)] → W p l e rmX0_keepOnly s m args below meth c H locs 0 0 (QI X shC nC s args below out) (F0 m 10 ls []) := by
  intro N
  induction N with
  | zero => intro x1 x2 x3 x4 S H locs ls hf hw hl; cases hf
  | succ N ih =>
    intro x1 x2 x3 x4 S H locs ls hf hw hl
    rw [f_X0_keepOnly_10.eq_2] at hf
    refine lv_iload C.1.1 C.1.2.1 dX0_keepOnly_10 (lv_at hl 4 rfl) ?_
    refine lv_iload_n C.1.1 C.1.2.1 dX0_keepOnly_12 rfl (lv_at hl 2 rfl) ?_
    refine r_icmp_ge C (tgt := 49) dX0_keepOnly_13 (by decide) hf (fun hf => ?_) (fun hf => ?_)
    · exact hk49 x2 x3 S H locs ls hf hw (lv_sub hl [0, 2, 3] rfl)
    · refine lv_aload_n C.1.1 C.1.2.1 dX0_keepOnly_16 rfl (lv_at hl 0 rfl) ?_
      refine lv_iload_n C.1.1 C.1.2.1 dX0_keepOnly_17 rfl (lv_at hl 1 rfl) ?_
      refine lv_iload C.1.1 C.1.2.1 dX0_keepOnly_18 (lv_at hl 4 rfl) ?_
      refine lv_iadd C.1.1 C.1.2.1 dX0_keepOnly_20 ?_
      refine r_callI (As := [.int (x1 + x4)]) (rest := []) (rm := rmX0_has) C hw (is0_s i0) (is0_l i0) cO0 tw3_168 tw3_145 tw3_146 tw1_4 tw3_147 hd_X0_has rfl ⟨⟨rfl, rfl⟩, Nat.le_of_ble_eq_true rfl, Nat.le_of_ble_eq_true rfl⟩ hl.1 rfl (Nat.le_of_ble_eq_true rfl) dX0_keepOnly_21 hf (fun o ho => c_X0_has l X hinj hZ N S c0 (x1 + x4) i0 o ho) (fun v21 S21 H locs hf hw => ?_)
      refine r_if_eq C (tgt := 49) dX0_keepOnly_24 (by decide) hf (fun hf => ?_) (fun hf => ?_)
      · exact hk49 x2 x3 S21 H locs ls hf hw (lv_sub hl [0, 2, 3] rfl)
      · refine lv_aload_n C.1.1 C.1.2.1 dX0_keepOnly_27 rfl (lv_at hl 0 rfl) ?_
        refine r_getR (k := 0) C hw (is0_s i0) (is0_l i0) cO0 rfl (by decide) tw1_85 rfl dX0_keepOnly_28 ?_
        refine lv_iload C.1.1 C.1.2.1 dX0_keepOnly_31 (lv_at hl 4 rfl) ?_
        refine lv_aload_n C.1.1 C.1.2.1 dX0_keepOnly_33 rfl (lv_at hl 0 rfl) ?_
        refine r_getR (k := 0) C hw (is0_s i0) (is0_l i0) cO0 rfl (by decide) tw1_85 rfl dX0_keepOnly_34 ?_
        refine lv_iload_n C.1.1 C.1.2.1 dX0_keepOnly_37 rfl (lv_at hl 1 rfl) ?_
        refine lv_iload C.1.1 C.1.2.1 dX0_keepOnly_38 (lv_at hl 4 rfl) ?_
        refine lv_iadd C.1.1 C.1.2.1 dX0_keepOnly_40 ?_
        refine r_iald C hw (is0_s1 i0) (is0_l1 i0) dX0_keepOnly_41 hf (fun v41 hf => ?_)
        refine r_iast C hw (is0_s1 i0) (is0_l1 i0) dX0_keepOnly_42 hf (fun S42 H locs hf hw => ?_)
        refine lv_iinc (v := (x4 + 1)) (lv' := [(4, .int (x4 + 1)), (0, .ref (X.2.2 c0)), (1, .int x1), (2, .int x2), (3, .int x3)]) C.1.1 C.1.2.1 dX0_keepOnly_43 hl (k := 4) rfl (by rfl) (by decide) rfl (fun ls hl => ?_)
        refine lv_goto (tgt := 10) C.1.1 C.1.2.1 dX0_keepOnly_46 (by decide) ?_
        exact ih x1 x2 x3 (x4 + 1) S42 H locs ls hf hw (lv_sub hl [1, 2, 3, 4, 0] rfl)
set_option maxRecDepth 100000 in
set_option maxHeartbeats 4000000 in
theorem c_X0_keepOnly (l : Launch) (X : XT) (hinj : XInj X nC) (hZ : ZOK (Zc X)) (N : Nat) (S : S2) (c0 : Nat) (a1 : Int32) (a2 : Int32) (i0 : Is0 c0) (out : Int32 × S2) (hf : f_X0_keepOnly N S c0 a1 a2 = some out) : MI l X shC nC (Zc X) yX0_keepOnly cX0_keepOnly 5 (some .int) rmX0_keepOnly [.ref (X.2.2 c0), .int a1, .int a2] S out := by
  refine met_I (own := RX0) (by decide) rfl hinj hZ (Nat.le_of_ble_eq_true rfl) (fun p e s m args below meth c C ls H locs hw hl => ?_)
  unfold f_X0_keepOnly at hf
  have hl : lv_has ls 5 [(0, .ref (X.2.2 c0)), (1, .int a1), (2, .int a2)] := hl
  refine lv_aload_n C.1.1 C.1.2.1 dX0_keepOnly_0 rfl (lv_at hl 0 rfl) ?_
  refine r_getI (k := 1) C hw (is0_s i0) (is0_l i0) cO0 rfl (by decide) tw1_89 rfl dX0_keepOnly_1 hf (fun v1 hf => ?_)
  refine lv_iload_n C.1.1 C.1.2.1 dX0_keepOnly_4 rfl (lv_at hl 2 rfl) ?_
  refine lv_isub C.1.1 C.1.2.1 dX0_keepOnly_5 ?_
  refine lv_istore_n (lv' := [(3, .int (v1 - a2)), (0, .ref (X.2.2 c0)), (1, .int a1), (2, .int a2)]) C.1.1 C.1.2.1 dX0_keepOnly_6 rfl hl (by decide) rfl (fun ls hl => ?_)
  refine lv_iconst (v := 0) C.1.1 C.1.2.1 dX0_keepOnly_7 (by decide) ?_
  refine lv_istore (lv' := [(4, .int 0), (3, .int (v1 - a2)), (0, .ref (X.2.2 c0)), (1, .int a1), (2, .int a2)]) C.1.1 C.1.2.1 dX0_keepOnly_8 hl (by decide) rfl (fun ls hl => ?_)
  exact (w_X0_keepOnly_10 l hinj hZ C out c0 i0 (f_X0_keepOnly_49 c0 N) (w_X0_keepOnly_49 l hinj hZ C out c0 i0 N) N) a1 a2 (v1 - a2) 0 S H locs ls hf hw (lv_sub hl [2, 3, 4, 1, 0] rfl)
def f_X5_placeOf (N : Nat) (S : S2) (c0 : Nat) (a1 : Int32) : Option (Int32 × S2) := aI S (c0 + 11) 48 a1 fun v9 => aI S (c0 + 5) 48 v9 fun v10 => rI v10 S
abbrev rmX5_placeOf : Room := { frames := 0, cells := 0, slots := 0, locals := 0 }
theorem hd_X5_placeOf : yX5_placeOf.cls ≠ "java/lang/invoke/MethodHandle" ∧ yX5_placeOf.cls ≠ "java/lang/invoke/VarHandle" ∧ (parseMethodDescriptor yX5_placeOf.desc).map (fun d => d.parameters.length) = some 1 := by decide +kernel
set_option maxRecDepth 100000 in
set_option maxHeartbeats 4000000 in
theorem c_X5_placeOf (l : Launch) (X : XT) (hinj : XInj X nC) (hZ : ZOK (Zc X)) (N : Nat) (S : S2) (c0 : Nat) (a1 : Int32) (i0 : Is5 c0) (out : Int32 × S2) (hf : f_X5_placeOf N S c0 a1 = some out) : MI l X shC nC (Zc X) yX5_placeOf cX5_placeOf 2 (some .int) rmX5_placeOf [.ref (X.2.2 c0), .int a1] S out := by
  refine met_I (own := RX5) (by decide) rfl hinj hZ (Nat.le_of_ble_eq_true rfl) (fun p e s m args below meth c C ls H locs hw hl => ?_)
  unfold f_X5_placeOf at hf
  have hl : lv_has ls 2 [(0, .ref (X.2.2 c0)), (1, .int a1)] := hl
  refine lv_aload_n C.1.1 C.1.2.1 dX5_placeOf_0 rfl (lv_at hl 0 rfl) ?_
  refine r_getR (k := 6) C hw (is5_s i0) (is5_l i0) cO5 rfl (by decide) tw1_120 rfl dX5_placeOf_1 ?_
  refine lv_aload_n C.1.1 C.1.2.1 dX5_placeOf_4 rfl (lv_at hl 0 rfl) ?_
  refine r_getR (k := 12) C hw (is5_s i0) (is5_l i0) cO5 rfl (by decide) tw1_126 rfl dX5_placeOf_5 ?_
  refine lv_iload_n C.1.1 C.1.2.1 dX5_placeOf_8 rfl (lv_at hl 1 rfl) ?_
  refine r_iald C hw (is5_s11 i0) (is5_l11 i0) dX5_placeOf_9 hf (fun v9 hf => ?_)
  refine r_iald C hw (is5_s5 i0) (is5_l5 i0) dX5_placeOf_10 hf (fun v10 hf => ?_)
  exact r_retI C hw dX5_placeOf_11 hf
def f_X5_heightOf (N : Nat) (S : S2) (c0 : Nat) (a1 : Int32) : Option (Int32 × S2) := aI S (c0 + 11) 48 a1 fun v9 => aI S (c0 + 6) 48 v9 fun v10 => rI v10 S
abbrev rmX5_heightOf : Room := { frames := 0, cells := 0, slots := 0, locals := 0 }
theorem hd_X5_heightOf : yX5_heightOf.cls ≠ "java/lang/invoke/MethodHandle" ∧ yX5_heightOf.cls ≠ "java/lang/invoke/VarHandle" ∧ (parseMethodDescriptor yX5_heightOf.desc).map (fun d => d.parameters.length) = some 1 := by decide +kernel
set_option maxRecDepth 100000 in
set_option maxHeartbeats 4000000 in
theorem c_X5_heightOf (l : Launch) (X : XT) (hinj : XInj X nC) (hZ : ZOK (Zc X)) (N : Nat) (S : S2) (c0 : Nat) (a1 : Int32) (i0 : Is5 c0) (out : Int32 × S2) (hf : f_X5_heightOf N S c0 a1 = some out) : MI l X shC nC (Zc X) yX5_heightOf cX5_heightOf 2 (some .int) rmX5_heightOf [.ref (X.2.2 c0), .int a1] S out := by
  refine met_I (own := RX5) (by decide) rfl hinj hZ (Nat.le_of_ble_eq_true rfl) (fun p e s m args below meth c C ls H locs hw hl => ?_)
  unfold f_X5_heightOf at hf
  have hl : lv_has ls 2 [(0, .ref (X.2.2 c0)), (1, .int a1)] := hl
  refine lv_aload_n C.1.1 C.1.2.1 dX5_heightOf_0 rfl (lv_at hl 0 rfl) ?_
  refine r_getR (k := 7) C hw (is5_s i0) (is5_l i0) cO5 rfl (by decide) tw1_121 rfl dX5_heightOf_1 ?_
  refine lv_aload_n C.1.1 C.1.2.1 dX5_heightOf_4 rfl (lv_at hl 0 rfl) ?_
  refine r_getR (k := 12) C hw (is5_s i0) (is5_l i0) cO5 rfl (by decide) tw1_126 rfl dX5_heightOf_5 ?_
  refine lv_iload_n C.1.1 C.1.2.1 dX5_heightOf_8 rfl (lv_at hl 1 rfl) ?_
  refine r_iald C hw (is5_s11 i0) (is5_l11 i0) dX5_heightOf_9 hf (fun v9 hf => ?_)
  refine r_iald C hw (is5_s6 i0) (is5_l6 i0) dX5_heightOf_10 hf (fun v10 hf => ?_)
  exact r_retI C hw dX5_heightOf_11 hf
def f_X5_valleyOf (N : Nat) (S : S2) (c0 : Nat) (a1 : Int32) : Option (Int32 × S2) := aI S (c0 + 11) 48 a1 fun v9 => aI S (c0 + 7) 48 v9 fun v10 => rI v10 S
abbrev rmX5_valleyOf : Room := { frames := 0, cells := 0, slots := 0, locals := 0 }
theorem hd_X5_valleyOf : yX5_valleyOf.cls ≠ "java/lang/invoke/MethodHandle" ∧ yX5_valleyOf.cls ≠ "java/lang/invoke/VarHandle" ∧ (parseMethodDescriptor yX5_valleyOf.desc).map (fun d => d.parameters.length) = some 1 := by decide +kernel
set_option maxRecDepth 100000 in
set_option maxHeartbeats 4000000 in
theorem c_X5_valleyOf (l : Launch) (X : XT) (hinj : XInj X nC) (hZ : ZOK (Zc X)) (N : Nat) (S : S2) (c0 : Nat) (a1 : Int32) (i0 : Is5 c0) (out : Int32 × S2) (hf : f_X5_valleyOf N S c0 a1 = some out) : MI l X shC nC (Zc X) yX5_valleyOf cX5_valleyOf 2 (some .int) rmX5_valleyOf [.ref (X.2.2 c0), .int a1] S out := by
  refine met_I (own := RX5) (by decide) rfl hinj hZ (Nat.le_of_ble_eq_true rfl) (fun p e s m args below meth c C ls H locs hw hl => ?_)
  unfold f_X5_valleyOf at hf
  have hl : lv_has ls 2 [(0, .ref (X.2.2 c0)), (1, .int a1)] := hl
  refine lv_aload_n C.1.1 C.1.2.1 dX5_valleyOf_0 rfl (lv_at hl 0 rfl) ?_
  refine r_getR (k := 8) C hw (is5_s i0) (is5_l i0) cO5 rfl (by decide) tw1_122 rfl dX5_valleyOf_1 ?_
  refine lv_aload_n C.1.1 C.1.2.1 dX5_valleyOf_4 rfl (lv_at hl 0 rfl) ?_
  refine r_getR (k := 12) C hw (is5_s i0) (is5_l i0) cO5 rfl (by decide) tw1_126 rfl dX5_valleyOf_5 ?_
  refine lv_iload_n C.1.1 C.1.2.1 dX5_valleyOf_8 rfl (lv_at hl 1 rfl) ?_
  refine r_iald C hw (is5_s11 i0) (is5_l11 i0) dX5_valleyOf_9 hf (fun v9 hf => ?_)
  refine r_iald C hw (is5_s7 i0) (is5_l7 i0) dX5_valleyOf_10 hf (fun v10 hf => ?_)
  exact r_retI C hw dX5_valleyOf_11 hf
def f_X5_deathOf (N : Nat) (S : S2) (c0 : Nat) (a1 : Int32) : Option (Int32 × S2) := aI S (c0 + 11) 48 a1 fun v9 => aI S (c0 + 8) 48 v9 fun v10 => rI v10 S
abbrev rmX5_deathOf : Room := { frames := 0, cells := 0, slots := 0, locals := 0 }
theorem hd_X5_deathOf : yX5_deathOf.cls ≠ "java/lang/invoke/MethodHandle" ∧ yX5_deathOf.cls ≠ "java/lang/invoke/VarHandle" ∧ (parseMethodDescriptor yX5_deathOf.desc).map (fun d => d.parameters.length) = some 1 := by decide +kernel
set_option maxRecDepth 100000 in
set_option maxHeartbeats 4000000 in
theorem c_X5_deathOf (l : Launch) (X : XT) (hinj : XInj X nC) (hZ : ZOK (Zc X)) (N : Nat) (S : S2) (c0 : Nat) (a1 : Int32) (i0 : Is5 c0) (out : Int32 × S2) (hf : f_X5_deathOf N S c0 a1 = some out) : MI l X shC nC (Zc X) yX5_deathOf cX5_deathOf 2 (some .int) rmX5_deathOf [.ref (X.2.2 c0), .int a1] S out := by
  refine met_I (own := RX5) (by decide) rfl hinj hZ (Nat.le_of_ble_eq_true rfl) (fun p e s m args below meth c C ls H locs hw hl => ?_)
  unfold f_X5_deathOf at hf
  have hl : lv_has ls 2 [(0, .ref (X.2.2 c0)), (1, .int a1)] := hl
  refine lv_aload_n C.1.1 C.1.2.1 dX5_deathOf_0 rfl (lv_at hl 0 rfl) ?_
  refine r_getR (k := 9) C hw (is5_s i0) (is5_l i0) cO5 rfl (by decide) tw1_123 rfl dX5_deathOf_1 ?_
  refine lv_aload_n C.1.1 C.1.2.1 dX5_deathOf_4 rfl (lv_at hl 0 rfl) ?_
  refine r_getR (k := 12) C hw (is5_s i0) (is5_l i0) cO5 rfl (by decide) tw1_126 rfl dX5_deathOf_5 ?_
  refine lv_iload_n C.1.1 C.1.2.1 dX5_deathOf_8 rfl (lv_at hl 1 rfl) ?_
  refine r_iald C hw (is5_s11 i0) (is5_l11 i0) dX5_deathOf_9 hf (fun v9 hf => ?_)
  refine r_iald C hw (is5_s8 i0) (is5_l8 i0) dX5_deathOf_10 hf (fun v10 hf => ?_)
  exact r_retI C hw dX5_deathOf_11 hf
def f_X5_persistenceOf (N : Nat) (S : S2) (c0 : Nat) (a1 : Int32) : Option (Int32 × S2) := bI (f_X5_heightOf N S c0 a1) fun v2 S2 => bI (f_X5_deathOf N S2 c0 a1) fun v7 S7 => rI (v2 - v7) S7
abbrev rmX5_persistenceOf : Room := { frames := 1, cells := 0, slots := 0, locals := 21 }
theorem hd_X5_persistenceOf : yX5_persistenceOf.cls ≠ "java/lang/invoke/MethodHandle" ∧ yX5_persistenceOf.cls ≠ "java/lang/invoke/VarHandle" ∧ (parseMethodDescriptor yX5_persistenceOf.desc).map (fun d => d.parameters.length) = some 1 := by decide +kernel
set_option maxRecDepth 100000 in
set_option maxHeartbeats 4000000 in
theorem c_X5_persistenceOf (l : Launch) (X : XT) (hinj : XInj X nC) (hZ : ZOK (Zc X)) (N : Nat) (S : S2) (c0 : Nat) (a1 : Int32) (i0 : Is5 c0) (out : Int32 × S2) (hf : f_X5_persistenceOf N S c0 a1 = some out) : MI l X shC nC (Zc X) yX5_persistenceOf cX5_persistenceOf 2 (some .int) rmX5_persistenceOf [.ref (X.2.2 c0), .int a1] S out := by
  refine met_I (own := RX5) (by decide) rfl hinj hZ (Nat.le_of_ble_eq_true rfl) (fun p e s m args below meth c C ls H locs hw hl => ?_)
  unfold f_X5_persistenceOf at hf
  have hl : lv_has ls 2 [(0, .ref (X.2.2 c0)), (1, .int a1)] := hl
  refine lv_aload_n C.1.1 C.1.2.1 dX5_persistenceOf_0 rfl (lv_at hl 0 rfl) ?_
  refine lv_iload_n C.1.1 C.1.2.1 dX5_persistenceOf_1 rfl (lv_at hl 1 rfl) ?_
  refine r_callI (As := [.int a1]) (rest := []) (rm := rmX5_heightOf) C hw (is5_s i0) (is5_l i0) cO5 tw3_102 tw3_103 tw3_104 tw1_5 tw3_105 hd_X5_heightOf rfl ⟨⟨rfl, rfl⟩, Nat.le_of_ble_eq_true rfl, Nat.le_of_ble_eq_true rfl⟩ hl.1 rfl (Nat.le_of_ble_eq_true rfl) dX5_persistenceOf_2 hf (fun o ho => c_X5_heightOf l X hinj hZ N S c0 a1 i0 o ho) (fun v2 S2 H locs hf hw => ?_)
  refine lv_aload_n C.1.1 C.1.2.1 dX5_persistenceOf_5 rfl (lv_at hl 0 rfl) ?_
  refine lv_iload_n C.1.1 C.1.2.1 dX5_persistenceOf_6 rfl (lv_at hl 1 rfl) ?_
  refine r_callI (As := [.int a1]) (rest := [.int v2]) (rm := rmX5_deathOf) C hw (is5_s i0) (is5_l i0) cO5 tw3_106 tw3_107 tw3_108 tw1_5 tw3_109 hd_X5_deathOf rfl ⟨⟨rfl, rfl⟩, Nat.le_of_ble_eq_true rfl, Nat.le_of_ble_eq_true rfl⟩ hl.1 rfl (Nat.le_of_ble_eq_true rfl) dX5_persistenceOf_7 hf (fun o ho => c_X5_deathOf l X hinj hZ N S2 c0 a1 i0 o ho) (fun v7 S7 H locs hf hw => ?_)
  refine lv_isub C.1.1 C.1.2.1 dX5_persistenceOf_10 ?_
  exact r_retI C hw dX5_persistenceOf_11 hf
def f_X5_parentOf (N : Nat) (S : S2) (c0 : Nat) (a1 : Int32) : Option (Int32 × S2) := aI S (c0 + 11) 48 a1 fun v9 => aI S (c0 + 9) 48 v9 fun v10 => (if v10 = (-1) then rI (-1) S else aI S (c0 + 12) 48 v10 fun v26 => rI v26 S)
abbrev rmX5_parentOf : Room := { frames := 0, cells := 0, slots := 0, locals := 0 }
theorem hd_X5_parentOf : yX5_parentOf.cls ≠ "java/lang/invoke/MethodHandle" ∧ yX5_parentOf.cls ≠ "java/lang/invoke/VarHandle" ∧ (parseMethodDescriptor yX5_parentOf.desc).map (fun d => d.parameters.length) = some 1 := by decide +kernel
set_option maxRecDepth 100000 in
set_option maxHeartbeats 4000000 in
theorem c_X5_parentOf (l : Launch) (X : XT) (hinj : XInj X nC) (hZ : ZOK (Zc X)) (N : Nat) (S : S2) (c0 : Nat) (a1 : Int32) (i0 : Is5 c0) (out : Int32 × S2) (hf : f_X5_parentOf N S c0 a1 = some out) : MI l X shC nC (Zc X) yX5_parentOf cX5_parentOf 3 (some .int) rmX5_parentOf [.ref (X.2.2 c0), .int a1] S out := by
  refine met_I (own := RX5) (by decide) rfl hinj hZ (Nat.le_of_ble_eq_true rfl) (fun p e s m args below meth c C ls H locs hw hl => ?_)
  unfold f_X5_parentOf at hf
  have hl : lv_has ls 3 [(0, .ref (X.2.2 c0)), (1, .int a1)] := hl
  refine lv_aload_n C.1.1 C.1.2.1 dX5_parentOf_0 rfl (lv_at hl 0 rfl) ?_
  refine r_getR (k := 10) C hw (is5_s i0) (is5_l i0) cO5 rfl (by decide) tw1_124 rfl dX5_parentOf_1 ?_
  refine lv_aload_n C.1.1 C.1.2.1 dX5_parentOf_4 rfl (lv_at hl 0 rfl) ?_
  refine r_getR (k := 12) C hw (is5_s i0) (is5_l i0) cO5 rfl (by decide) tw1_126 rfl dX5_parentOf_5 ?_
  refine lv_iload_n C.1.1 C.1.2.1 dX5_parentOf_8 rfl (lv_at hl 1 rfl) ?_
  refine r_iald C hw (is5_s11 i0) (is5_l11 i0) dX5_parentOf_9 hf (fun v9 hf => ?_)
  refine r_iald C hw (is5_s9 i0) (is5_l9 i0) dX5_parentOf_10 hf (fun v10 hf => ?_)
  refine lv_istore_n (lv' := [(2, .int v10), (0, .ref (X.2.2 c0)), (1, .int a1)]) C.1.1 C.1.2.1 dX5_parentOf_11 rfl hl (by decide) rfl (fun ls hl => ?_)
  refine lv_iload_n C.1.1 C.1.2.1 dX5_parentOf_12 rfl (lv_at hl 0 rfl) ?_
  refine lv_iconst (v := (-1)) C.1.1 C.1.2.1 dX5_parentOf_13 (by decide) ?_
  refine r_icmp_ne C (tgt := 21) dX5_parentOf_14 (by decide) hf (fun hf => ?_) (fun hf => ?_)
  · refine lv_aload_n C.1.1 C.1.2.1 dX5_parentOf_21 rfl (lv_at hl 1 rfl) ?_
    refine r_getR (k := 13) C hw (is5_s i0) (is5_l i0) cO5 rfl (by decide) tw1_127 rfl dX5_parentOf_22 ?_
    refine lv_iload_n C.1.1 C.1.2.1 dX5_parentOf_25 rfl (lv_at hl 0 rfl) ?_
    refine r_iald C hw (is5_s12 i0) (is5_l12 i0) dX5_parentOf_26 hf (fun v26 hf => ?_)
    exact r_retI C hw dX5_parentOf_27 hf
  · refine lv_iconst (v := (-1)) C.1.1 C.1.2.1 dX5_parentOf_17 (by decide) ?_
    refine lv_goto (tgt := 27) C.1.1 C.1.2.1 dX5_parentOf_18 (by decide) ?_
    exact r_retI C hw dX5_parentOf_27 hf
def f_X5_generationOf (N : Nat) (S : S2) (c0 : Nat) (a1 : Int32) : Option (Int32 × S2) := aI S (c0 + 11) 48 a1 fun v9 => aI S (c0 + 10) 48 v9 fun v10 => rI v10 S
abbrev rmX5_generationOf : Room := { frames := 0, cells := 0, slots := 0, locals := 0 }
theorem hd_X5_generationOf : yX5_generationOf.cls ≠ "java/lang/invoke/MethodHandle" ∧ yX5_generationOf.cls ≠ "java/lang/invoke/VarHandle" ∧ (parseMethodDescriptor yX5_generationOf.desc).map (fun d => d.parameters.length) = some 1 := by decide +kernel
set_option maxRecDepth 100000 in
set_option maxHeartbeats 4000000 in
theorem c_X5_generationOf (l : Launch) (X : XT) (hinj : XInj X nC) (hZ : ZOK (Zc X)) (N : Nat) (S : S2) (c0 : Nat) (a1 : Int32) (i0 : Is5 c0) (out : Int32 × S2) (hf : f_X5_generationOf N S c0 a1 = some out) : MI l X shC nC (Zc X) yX5_generationOf cX5_generationOf 2 (some .int) rmX5_generationOf [.ref (X.2.2 c0), .int a1] S out := by
  refine met_I (own := RX5) (by decide) rfl hinj hZ (Nat.le_of_ble_eq_true rfl) (fun p e s m args below meth c C ls H locs hw hl => ?_)
  unfold f_X5_generationOf at hf
  have hl : lv_has ls 2 [(0, .ref (X.2.2 c0)), (1, .int a1)] := hl
  refine lv_aload_n C.1.1 C.1.2.1 dX5_generationOf_0 rfl (lv_at hl 0 rfl) ?_
  refine r_getR (k := 11) C hw (is5_s i0) (is5_l i0) cO5 rfl (by decide) tw1_125 rfl dX5_generationOf_1 ?_
  refine lv_aload_n C.1.1 C.1.2.1 dX5_generationOf_4 rfl (lv_at hl 0 rfl) ?_
  refine r_getR (k := 12) C hw (is5_s i0) (is5_l i0) cO5 rfl (by decide) tw1_126 rfl dX5_generationOf_5 ?_
  refine lv_iload_n C.1.1 C.1.2.1 dX5_generationOf_8 rfl (lv_at hl 1 rfl) ?_
  refine r_iald C hw (is5_s11 i0) (is5_l11 i0) dX5_generationOf_9 hf (fun v9 hf => ?_)
  refine r_iald C hw (is5_s10 i0) (is5_l10 i0) dX5_generationOf_10 hf (fun v10 hf => ?_)
  exact r_retI C hw dX5_generationOf_11 hf
def f_X5_flatLevels_109 (c0 : Nat) (c1 : Nat) (N : Nat) (S : S2) : Option (S2) := rV S
def f_X5_flatLevels_103 (c0 : Nat) (c1 : Nat) (k20 : Int32 → S2 → Option (S2)) (N : Nat) (x2 : Int32) (S : S2) : Option (S2) := k20 (x2 + 1) S
def f_X5_flatLevels_72 (c0 : Nat) (c1 : Nat) (k103 : Int32 → S2 → Option (S2)) : Nat → Int32 → Int32 → Int32 → Int32 → S2 → Option (S2)
  | 0, _, _, _, _, _ => none
  | N + 1, x2, x3, x5, x6, S => (if x5 < x6 then k103 x2 S else aI S (c0 + 13) 48 x6 fun v91 => sI S (c0 + 13) 48 x6 (mnI v91 x3) fun S96 => (f_X5_flatLevels_72 c0 c1 k103 N) x2 x3 x5 (x6 + 1) S96)
def f_X5_flatLevels_20 (c0 : Nat) (c1 : Nat) (k109 : S2 → Option (S2)) : Nat → Int32 → S2 → Option (S2)
  | 0, _, _ => none
  | N + 1, x2, S => gI S c0 0 fun v22 => (if v22 ≤ x2 then k109 S else bI (f_X5_deathOf N S c0 x2) fun v30 S30 => bI (f_X5_placeOf N S30 c0 x2) fun v36 S36 => bI (f_X5_heightOf N S36 c0 x2) fun v43 S43 => (if v43 ≤ v30 then (f_X5_flatLevels_103 c0 c1 (f_X5_flatLevels_20 c0 c1 k109 N) N) x2 S43 else bI (f_X0_runEnd N S43 c1 v36 (v30 + 1)) fun v56 S56 => bI (f_X0_runStart N S56 c1 v36 (v30 + 1)) fun v67 S67 => (f_X5_flatLevels_72 c0 c1 (f_X5_flatLevels_103 c0 c1 (f_X5_flatLevels_20 c0 c1 k109 N) N) N) x2 v30 v56 v67 S67))
def f_X5_flatLevels (N : Nat) (S : S2) (c0 : Nat) (c1 : Nat) : Option (S2) := cpI S (c1 + 1) (c0 + 13) 48 48 0 0 48 fun S12 => gI S12 c0 1 fun v16 => (f_X5_flatLevels_20 c0 c1 (f_X5_flatLevels_109 c0 c1 N) N) v16 S12
abbrev rmX5_flatLevels : Room := { frames := 1, cells := 0, slots := 0, locals := 26 }
theorem hd_X5_flatLevels : yX5_flatLevels.cls ≠ "java/lang/invoke/MethodHandle" ∧ yX5_flatLevels.cls ≠ "java/lang/invoke/VarHandle" ∧ (parseMethodDescriptor yX5_flatLevels.desc).map (fun d => d.parameters.length) = some 1 := by decide +kernel
set_option maxRecDepth 100000 in
set_option maxHeartbeats 4000000 in
theorem w_X5_flatLevels_109 {p : Program} (l : Launch) {e : Env} {s : State} {m : MethodId} {args : Array Value} {below : List Frame} {meth : Method} {c : Code} {X : XT} (hinj : XInj X nC) (hZ : ZOK (Zc X)) (C : CX p s m args meth c cX5_flatLevels 7 RX5 (some (.array .int)) X nC (Zc X)) (out : S2) (c0 : Nat) (c1 : Nat) (i0 : Is5 c0) (i1 : Is0 c1) : ∀ (N : Nat), ∀ (S : S2) (H : Heap) (locs : List Loc) (ls : Array Slot), f_X5_flatLevels_109 c0 c1 N S = some out → WH X shC nC s S H locs → lv_has ls 7 [(0, .ref (X.2.2 c0))] → W p l e rmX5_flatLevels s m args below meth c H locs 0 0 (QR X shC nC s args below (X.2.2 (c0 + 13)) out) (F0 m 109 ls []) := by
  intro N S H locs ls hf hw hl
  unfold f_X5_flatLevels_109 at hf
  refine lv_aload_n C.1.1 C.1.2.1 dX5_flatLevels_109 rfl (lv_at hl 0 rfl) ?_
  refine r_getR (k := 14) C hw (is5_s i0) (is5_l i0) cO5 rfl (by decide) tw1_128 rfl dX5_flatLevels_110 ?_
  exact r_retR C (by first | exact Or.inr ⟨_, rfl⟩ | exact Or.inl ⟨_, rfl⟩) hw dX5_flatLevels_113 hf
set_option maxRecDepth 100000 in
set_option maxHeartbeats 4000000 in
theorem w_X5_flatLevels_103 {p : Program} (l : Launch) {e : Env} {s : State} {m : MethodId} {args : Array Value} {below : List Frame} {meth : Method} {c : Code} {X : XT} (hinj : XInj X nC) (hZ : ZOK (Zc X)) (C : CX p s m args meth c cX5_flatLevels 7 RX5 (some (.array .int)) X nC (Zc X)) (out : S2) (c0 : Nat) (c1 : Nat) (i0 : Is5 c0) (i1 : Is0 c1) (k20 : Int32 → S2 → Option (S2)) (hk20 : ∀ (x2 : Int32) (S : S2) (H : Heap) (locs : List Loc) (ls : Array Slot), k20 x2 S = some out → WH X shC nC s S H locs → lv_has ls 7 [(0, .ref (X.2.2 c0)), (1, .ref (X.2.2 c1)), (2, .int x2)] → W p l e rmX5_flatLevels s m args below meth c H locs 0 0 (QR X shC nC s args below (X.2.2 (c0 + 13)) out) (F0 m 20 ls [])) : ∀ (N : Nat), ∀ (x2 : Int32) (S : S2) (H : Heap) (locs : List Loc) (ls : Array Slot), f_X5_flatLevels_103 c0 c1 k20 N x2 S = some out → WH X shC nC s S H locs → lv_has ls 7 [(0, .ref (X.2.2 c0)), (1, .ref (X.2.2 c1)), (2, .int x2)] → W p l e rmX5_flatLevels s m args below meth c H locs 0 0 (QR X shC nC s args below (X.2.2 (c0 + 13)) out) (F0 m 103 ls []) := by
  intro N x2 S H locs ls hf hw hl
  unfold f_X5_flatLevels_103 at hf
  refine lv_iinc (v := (x2 + 1)) (lv' := [(2, .int (x2 + 1)), (0, .ref (X.2.2 c0)), (1, .ref (X.2.2 c1))]) C.1.1 C.1.2.1 dX5_flatLevels_103 hl (k := 2) rfl (by rfl) (by decide) rfl (fun ls hl => ?_)
  refine lv_goto (tgt := 20) C.1.1 C.1.2.1 dX5_flatLevels_106 (by decide) ?_
  exact hk20 (x2 + 1) S H locs ls hf hw (lv_sub hl [1, 2, 0] rfl)
set_option maxRecDepth 100000 in
set_option maxHeartbeats 4000000 in
theorem w_X5_flatLevels_72 {p : Program} (l : Launch) {e : Env} {s : State} {m : MethodId} {args : Array Value} {below : List Frame} {meth : Method} {c : Code} {X : XT} (hinj : XInj X nC) (hZ : ZOK (Zc X)) (C : CX p s m args meth c cX5_flatLevels 7 RX5 (some (.array .int)) X nC (Zc X)) (out : S2) (c0 : Nat) (c1 : Nat) (i0 : Is5 c0) (i1 : Is0 c1) (k103 : Int32 → S2 → Option (S2)) (hk103 : ∀ (x2 : Int32) (S : S2) (H : Heap) (locs : List Loc) (ls : Array Slot), k103 x2 S = some out → WH X shC nC s S H locs → lv_has ls 7 [(0, .ref (X.2.2 c0)), (1, .ref (X.2.2 c1)), (2, .int x2)] → W p l e rmX5_flatLevels s m args below meth c H locs 0 0 (QR X shC nC s args below (X.2.2 (c0 + 13)) out) (F0 m 103 ls [])) : ∀ (N : Nat), ∀ (x2 : Int32) (x3 : Int32) (x5 : Int32) (x6 : Int32) (S : S2) (H : Heap) (locs : List Loc) (ls : Array Slot), f_X5_flatLevels_72 c0 c1 k103 N x2 x3 x5 x6 S = some out → WH X shC nC s S H locs → lv_has ls 7 [(0, .ref (X.2.2 c0)), (1, .ref (X.2.2 c1)), (2, .int x2), (3, .int x3), (5, .int x5), (6, .int x6)] → W p l e rmX5_flatLevels s m args below meth c H locs 0 0 (QR X shC nC s args below (X.2.2 (c0 + 13)) out) (F0 m 72 ls []) := by
  intro N
  induction N with
  | zero => intro x2 x3 x5 x6 S H locs ls hf hw hl; cases hf
  | succ N ih =>
    intro x2 x3 x5 x6 S H locs ls hf hw hl
    rw [f_X5_flatLevels_72.eq_2] at hf
    refine lv_iload C.1.1 C.1.2.1 dX5_flatLevels_72 (lv_at hl 5 rfl) ?_
    refine lv_iload C.1.1 C.1.2.1 dX5_flatLevels_74 (lv_at hl 4 rfl) ?_
    refine r_icmp_gt C (tgt := 103) dX5_flatLevels_76 (by decide) hf (fun hf => ?_) (fun hf => ?_)
    · exact hk103 x2 S H locs ls hf hw (lv_sub hl [0, 1, 2] rfl)
    · refine lv_aload_n C.1.1 C.1.2.1 dX5_flatLevels_79 rfl (lv_at hl 0 rfl) ?_
      refine r_getR (k := 14) C hw (is5_s i0) (is5_l i0) cO5 rfl (by decide) tw1_128 rfl dX5_flatLevels_80 ?_
      refine lv_iload C.1.1 C.1.2.1 dX5_flatLevels_83 (lv_at hl 5 rfl) ?_
      refine lv_aload_n C.1.1 C.1.2.1 dX5_flatLevels_85 rfl (lv_at hl 0 rfl) ?_
      refine r_getR (k := 14) C hw (is5_s i0) (is5_l i0) cO5 rfl (by decide) tw1_128 rfl dX5_flatLevels_86 ?_
      refine lv_iload C.1.1 C.1.2.1 dX5_flatLevels_89 (lv_at hl 5 rfl) ?_
      refine r_iald C hw (is5_s13 i0) (is5_l13 i0) dX5_flatLevels_91 hf (fun v91 hf => ?_)
      refine lv_iload_n C.1.1 C.1.2.1 dX5_flatLevels_92 rfl (lv_at hl 3 rfl) ?_
      refine r_min C tw3_80 tw3_81 tw1_18 tw3_82 hl.1 (Nat.le_of_ble_eq_true rfl) (Nat.le_of_ble_eq_true rfl) dX5_flatLevels_93 ?_
      refine r_iast C hw (is5_s13 i0) (is5_l13 i0) dX5_flatLevels_96 hf (fun S96 H locs hf hw => ?_)
      refine lv_iinc (v := (x6 + 1)) (lv' := [(6, .int (x6 + 1)), (0, .ref (X.2.2 c0)), (1, .ref (X.2.2 c1)), (2, .int x2), (3, .int x3), (5, .int x5)]) C.1.1 C.1.2.1 dX5_flatLevels_97 hl (k := 5) rfl (by rfl) (by decide) rfl (fun ls hl => ?_)
      refine lv_goto (tgt := 72) C.1.1 C.1.2.1 dX5_flatLevels_100 (by decide) ?_
      exact ih x2 x3 x5 (x6 + 1) S96 H locs ls hf hw (lv_sub hl [1, 2, 3, 4, 5, 0] rfl)
set_option maxRecDepth 100000 in
set_option maxHeartbeats 4000000 in
theorem w_X5_flatLevels_20 {p : Program} (l : Launch) {e : Env} {s : State} {m : MethodId} {args : Array Value} {below : List Frame} {meth : Method} {c : Code} {X : XT} (hinj : XInj X nC) (hZ : ZOK (Zc X)) (C : CX p s m args meth c cX5_flatLevels 7 RX5 (some (.array .int)) X nC (Zc X)) (out : S2) (c0 : Nat) (c1 : Nat) (i0 : Is5 c0) (i1 : Is0 c1) (k109 : S2 → Option (S2)) (hk109 : ∀ (S : S2) (H : Heap) (locs : List Loc) (ls : Array Slot), k109 S = some out → WH X shC nC s S H locs → lv_has ls 7 [(0, .ref (X.2.2 c0))] → W p l e rmX5_flatLevels s m args below meth c H locs 0 0 (QR X shC nC s args below (X.2.2 (c0 + 13)) out) (F0 m 109 ls [])) : ∀ (N : Nat), ∀ (x2 : Int32) (S : S2) (H : Heap) (locs : List Loc) (ls : Array Slot), f_X5_flatLevels_20 c0 c1 k109 N x2 S = some out → WH X shC nC s S H locs → lv_has ls 7 [(0, .ref (X.2.2 c0)), (1, .ref (X.2.2 c1)), (2, .int x2)] → W p l e rmX5_flatLevels s m args below meth c H locs 0 0 (QR X shC nC s args below (X.2.2 (c0 + 13)) out) (F0 m 20 ls []) := by
  intro N
  induction N with
  | zero => intro x2 S H locs ls hf hw hl; cases hf
  | succ N ih =>
    intro x2 S H locs ls hf hw hl
    rw [f_X5_flatLevels_20.eq_2] at hf
    refine lv_iload_n C.1.1 C.1.2.1 dX5_flatLevels_20 rfl (lv_at hl 2 rfl) ?_
    refine lv_aload_n C.1.1 C.1.2.1 dX5_flatLevels_21 rfl (lv_at hl 0 rfl) ?_
    refine r_getI (k := 0) C hw (is5_s i0) (is5_l i0) cO5 rfl (by decide) tw1_111 rfl dX5_flatLevels_22 hf (fun v22 hf => ?_)
    refine r_icmp_ge C (tgt := 109) dX5_flatLevels_25 (by decide) hf (fun hf => ?_) (fun hf => ?_)
    · exact hk109 S H locs ls hf hw (lv_sub hl [0] rfl)
    · refine lv_aload_n C.1.1 C.1.2.1 dX5_flatLevels_28 rfl (lv_at hl 0 rfl) ?_
      refine lv_iload_n C.1.1 C.1.2.1 dX5_flatLevels_29 rfl (lv_at hl 2 rfl) ?_
      refine r_callI (As := [.int x2]) (rest := []) (rm := rmX5_deathOf) C hw (is5_s i0) (is5_l i0) cO5 tw3_106 tw3_107 tw3_108 tw1_5 tw3_109 hd_X5_deathOf rfl ⟨⟨rfl, rfl⟩, Nat.le_of_ble_eq_true rfl, Nat.le_of_ble_eq_true rfl⟩ hl.1 rfl (Nat.le_of_ble_eq_true rfl) dX5_flatLevels_30 hf (fun o ho => c_X5_deathOf l X hinj hZ N S c0 x2 i0 o ho) (fun v30 S30 H locs hf hw => ?_)
      refine lv_istore_n (lv' := [(3, .int v30), (0, .ref (X.2.2 c0)), (1, .ref (X.2.2 c1)), (2, .int x2)]) C.1.1 C.1.2.1 dX5_flatLevels_33 rfl hl (by decide) rfl (fun ls hl => ?_)
      refine lv_aload_n C.1.1 C.1.2.1 dX5_flatLevels_34 rfl (lv_at hl 1 rfl) ?_
      refine lv_iload_n C.1.1 C.1.2.1 dX5_flatLevels_35 rfl (lv_at hl 3 rfl) ?_
      refine r_callI (As := [.int x2]) (rest := []) (rm := rmX5_placeOf) C hw (is5_s i0) (is5_l i0) cO5 tw3_160 tw3_161 tw3_162 tw1_5 tw3_163 hd_X5_placeOf rfl ⟨⟨rfl, rfl⟩, Nat.le_of_ble_eq_true rfl, Nat.le_of_ble_eq_true rfl⟩ hl.1 rfl (Nat.le_of_ble_eq_true rfl) dX5_flatLevels_36 hf (fun o ho => c_X5_placeOf l X hinj hZ N S30 c0 x2 i0 o ho) (fun v36 S36 H locs hf hw => ?_)
      refine lv_istore (lv' := [(4, .int v36), (3, .int v30), (0, .ref (X.2.2 c0)), (1, .ref (X.2.2 c1)), (2, .int x2)]) C.1.1 C.1.2.1 dX5_flatLevels_39 hl (by decide) rfl (fun ls hl => ?_)
      refine lv_aload_n C.1.1 C.1.2.1 dX5_flatLevels_41 rfl (lv_at hl 2 rfl) ?_
      refine lv_iload_n C.1.1 C.1.2.1 dX5_flatLevels_42 rfl (lv_at hl 4 rfl) ?_
      refine r_callI (As := [.int x2]) (rest := []) (rm := rmX5_heightOf) C hw (is5_s i0) (is5_l i0) cO5 tw3_102 tw3_103 tw3_104 tw1_5 tw3_105 hd_X5_heightOf rfl ⟨⟨rfl, rfl⟩, Nat.le_of_ble_eq_true rfl, Nat.le_of_ble_eq_true rfl⟩ hl.1 rfl (Nat.le_of_ble_eq_true rfl) dX5_flatLevels_43 hf (fun o ho => c_X5_heightOf l X hinj hZ N S36 c0 x2 i0 o ho) (fun v43 S43 H locs hf hw => ?_)
      refine lv_iload_n C.1.1 C.1.2.1 dX5_flatLevels_46 rfl (lv_at hl 1 rfl) ?_
      refine r_icmp_le C (tgt := 103) dX5_flatLevels_47 (by decide) hf (fun hf => ?_) (fun hf => ?_)
      · exact (w_X5_flatLevels_103 l hinj hZ C out c0 c1 i0 i1 (f_X5_flatLevels_20 c0 c1 k109 N) ih N) x2 S43 H locs ls hf hw (lv_sub hl [2, 3, 4] rfl)
      · refine lv_aload_n C.1.1 C.1.2.1 dX5_flatLevels_50 rfl (lv_at hl 3 rfl) ?_
        refine lv_iload C.1.1 C.1.2.1 dX5_flatLevels_51 (lv_at hl 0 rfl) ?_
        refine lv_iload_n C.1.1 C.1.2.1 dX5_flatLevels_53 rfl (lv_at hl 1 rfl) ?_
        refine lv_iconst (v := 1) C.1.1 C.1.2.1 dX5_flatLevels_54 (by decide) ?_
        refine lv_iadd C.1.1 C.1.2.1 dX5_flatLevels_55 ?_
        refine r_callI (As := [.int v36, .int (v30 + 1)]) (rest := []) (rm := rmX0_runEnd) C hw (is0_s i1) (is0_l i1) cO0 tw3_184 tw3_185 tw3_186 tw1_4 tw3_187 hd_X0_runEnd rfl ⟨⟨rfl, rfl⟩, Nat.le_of_ble_eq_true rfl, Nat.le_of_ble_eq_true rfl⟩ hl.1 rfl (Nat.le_of_ble_eq_true rfl) dX5_flatLevels_56 hf (fun o ho => c_X0_runEnd l X hinj hZ N S43 c1 v36 (v30 + 1) i1 o ho) (fun v56 S56 H locs hf hw => ?_)
        refine lv_istore (lv' := [(5, .int v56), (4, .int v36), (3, .int v30), (0, .ref (X.2.2 c0)), (1, .ref (X.2.2 c1)), (2, .int x2)]) C.1.1 C.1.2.1 dX5_flatLevels_59 hl (by decide) rfl (fun ls hl => ?_)
        refine lv_aload_n C.1.1 C.1.2.1 dX5_flatLevels_61 rfl (lv_at hl 4 rfl) ?_
        refine lv_iload C.1.1 C.1.2.1 dX5_flatLevels_62 (lv_at hl 1 rfl) ?_
        refine lv_iload_n C.1.1 C.1.2.1 dX5_flatLevels_64 rfl (lv_at hl 2 rfl) ?_
        refine lv_iconst (v := 1) C.1.1 C.1.2.1 dX5_flatLevels_65 (by decide) ?_
        refine lv_iadd C.1.1 C.1.2.1 dX5_flatLevels_66 ?_
        refine r_callI (As := [.int v36, .int (v30 + 1)]) (rest := []) (rm := rmX0_runStart) C hw (is0_s i1) (is0_l i1) cO0 tw3_188 tw3_189 tw3_190 tw1_4 tw3_191 hd_X0_runStart rfl ⟨⟨rfl, rfl⟩, Nat.le_of_ble_eq_true rfl, Nat.le_of_ble_eq_true rfl⟩ hl.1 rfl (Nat.le_of_ble_eq_true rfl) dX5_flatLevels_67 hf (fun o ho => c_X0_runStart l X hinj hZ N S56 c1 v36 (v30 + 1) i1 o ho) (fun v67 S67 H locs hf hw => ?_)
        refine lv_istore (lv' := [(6, .int v67), (5, .int v56), (4, .int v36), (3, .int v30), (0, .ref (X.2.2 c0)), (1, .ref (X.2.2 c1)), (2, .int x2)]) C.1.1 C.1.2.1 dX5_flatLevels_70 hl (by decide) rfl (fun ls hl => ?_)
        exact (w_X5_flatLevels_72 l hinj hZ C out c0 c1 i0 i1 (f_X5_flatLevels_103 c0 c1 (f_X5_flatLevels_20 c0 c1 k109 N) N) (w_X5_flatLevels_103 l hinj hZ C out c0 c1 i0 i1 (f_X5_flatLevels_20 c0 c1 k109 N) ih N) N) x2 v30 v56 v67 S67 H locs ls hf hw (lv_sub hl [4, 5, 6, 3, 1, 0] rfl)
set_option maxRecDepth 100000 in
set_option maxHeartbeats 4000000 in
theorem c_X5_flatLevels (l : Launch) (X : XT) (hinj : XInj X nC) (hZ : ZOK (Zc X)) (N : Nat) (S : S2) (c0 : Nat) (c1 : Nat) (i0 : Is5 c0) (i1 : Is0 c1) (out : S2) (hf : f_X5_flatLevels N S c0 c1 = some out) : MR l X shC nC (Zc X) yX5_flatLevels cX5_flatLevels 7 (some (.array .int)) rmX5_flatLevels [.ref (X.2.2 c0), .ref (X.2.2 c1)] S (X.2.2 (c0 + 13)) out := by
  refine met_R (own := RX5) (by decide) rfl hinj hZ (Nat.le_of_ble_eq_true rfl) (fun p e s m args below meth c C ls H locs hw hl => ?_)
  unfold f_X5_flatLevels at hf
  have hl : lv_has ls 7 [(0, .ref (X.2.2 c0)), (1, .ref (X.2.2 c1))] := hl
  refine lv_aload_n C.1.1 C.1.2.1 dX5_flatLevels_0 rfl (lv_at hl 1 rfl) ?_
  refine r_getR (k := 0) C hw (is0_s i1) (is0_l i1) cO0 rfl (by decide) tw1_86 rfl dX5_flatLevels_1 ?_
  refine lv_iconst (v := 0) C.1.1 C.1.2.1 dX5_flatLevels_4 (by decide) ?_
  refine lv_aload_n C.1.1 C.1.2.1 dX5_flatLevels_5 rfl (lv_at hl 0 rfl) ?_
  refine r_getR (k := 14) C hw (is5_s i0) (is5_l i0) cO5 rfl (by decide) tw1_128 rfl dX5_flatLevels_6 ?_
  refine lv_iconst (v := 0) C.1.1 C.1.2.1 dX5_flatLevels_9 (by decide) ?_
  refine lv_bipush (v := 48) C.1.1 C.1.2.1 dX5_flatLevels_10 (by decide) ?_
  refine r_cpI C hw (is0_s1 i1) (is5_s13 i0) (is0_l1 i1) (is5_l13 i0) tw4_26 tw3_54 tw3_53 tw1_17 hl.1 (Nat.le_of_ble_eq_true rfl) (Nat.le_of_ble_eq_true rfl) dX5_flatLevels_12 hf (fun S12 H locs hf hw => ?_)
  refine lv_aload_n C.1.1 C.1.2.1 dX5_flatLevels_15 rfl (lv_at hl 0 rfl) ?_
  refine r_getI (k := 1) C hw (is5_s i0) (is5_l i0) cO5 rfl (by decide) tw1_113 rfl dX5_flatLevels_16 hf (fun v16 hf => ?_)
  refine lv_istore_n (lv' := [(2, .int v16), (0, .ref (X.2.2 c0)), (1, .ref (X.2.2 c1))]) C.1.1 C.1.2.1 dX5_flatLevels_19 rfl hl (by decide) rfl (fun ls hl => ?_)
  exact (w_X5_flatLevels_20 l hinj hZ C out c0 c1 i0 i1 (f_X5_flatLevels_109 c0 c1 N) (w_X5_flatLevels_109 l hinj hZ C out c0 c1 i0 i1 N) N) v16 S12 H locs ls hf hw (lv_sub hl [1, 2, 0] rfl)
def f_X0_refusal_41 (c0 : Nat) (N : Nat) (x1 : Int32) (x2 : Int32) (x3 : Int32) (S : S2) : Option (Int32 × S2) := bI (f_X0_inBounds N S c0 x1 x2 x3) fun v45 S45 => (if v45 = 0 then rI 1 S45 else rI (-1) S45)
def f_X0_refusal_17 (c0 : Nat) (N : Nat) (x1 : Int32) (x2 : Int32) (x3 : Int32) (y0 : Int32) (S : S2) : Option (Int32 × S2) := gI S c0 1 fun v20 => (if v20 = 0 then rI 0 S else (if y0 = 0 then (f_X0_refusal_41 c0 N) x1 x2 x3 S else bI (f_X0_has N S c0 x2) fun v33 S33 => (if v33 = 0 then rI 0 S33 else (f_X0_refusal_41 c0 N) x1 x2 x3 S33)))
def f_X0_refusal_12 (c0 : Nat) (N : Nat) (x1 : Int32) (x2 : Int32) (x3 : Int32) (S : S2) : Option (Int32 × S2) := (f_X0_refusal_17 c0 N) x1 x2 x3 1 S
def f_X0_refusal (N : Nat) (S : S2) (c0 : Nat) (a1 : Int32) (a2 : Int32) (a3 : Int32) : Option (Int32 × S2) := (if a1 = 7 then (f_X0_refusal_12 c0 N) a1 a2 a3 S else (if a1 = 9 then (f_X0_refusal_12 c0 N) a1 a2 a3 S else (f_X0_refusal_17 c0 N) a1 a2 a3 0 S))
abbrev rmX0_refusal : Room := { frames := 1, cells := 0, slots := 0, locals := 23 }
theorem hd_X0_refusal : yX0_refusal.cls ≠ "java/lang/invoke/MethodHandle" ∧ yX0_refusal.cls ≠ "java/lang/invoke/VarHandle" ∧ (parseMethodDescriptor yX0_refusal.desc).map (fun d => d.parameters.length) = some 3 := by decide +kernel
set_option maxRecDepth 100000 in
set_option maxHeartbeats 4000000 in
theorem w_X0_refusal_41 {p : Program} (l : Launch) {e : Env} {s : State} {m : MethodId} {args : Array Value} {below : List Frame} {meth : Method} {c : Code} {X : XT} (hinj : XInj X nC) (hZ : ZOK (Zc X)) (C : CX p s m args meth c cX0_refusal 5 RX0 (some .int) X nC (Zc X)) (out : Int32 × S2) (c0 : Nat) (i0 : Is0 c0) : ∀ (N : Nat), ∀ (x1 : Int32) (x2 : Int32) (x3 : Int32) (S : S2) (H : Heap) (locs : List Loc) (ls : Array Slot), f_X0_refusal_41 c0 N x1 x2 x3 S = some out → WH X shC nC s S H locs → lv_has ls 5 [(0, .ref (X.2.2 c0)), (1, .int x1), (2, .int x2), (3, .int x3)] → W p l e rmX0_refusal s m args below meth c H locs 0 0 (QI X shC nC s args below out) (F0 m 41 ls []) := by
  intro N x1 x2 x3 S H locs ls hf hw hl
  unfold f_X0_refusal_41 at hf
  refine lv_aload_n C.1.1 C.1.2.1 dX0_refusal_41 rfl (lv_at hl 0 rfl) ?_
  refine lv_iload_n C.1.1 C.1.2.1 dX0_refusal_42 rfl (lv_at hl 1 rfl) ?_
  refine lv_iload_n C.1.1 C.1.2.1 dX0_refusal_43 rfl (lv_at hl 2 rfl) ?_
  refine lv_iload_n C.1.1 C.1.2.1 dX0_refusal_44 rfl (lv_at hl 3 rfl) ?_
  refine r_callI (As := [.int x1, .int x2, .int x3]) (rest := []) (rm := rmX0_inBounds) C hw (is0_s i0) (is0_l i0) cO0 tw3_232 tw3_234 tp_26 tw1_4 tw3_235 hd_X0_inBounds rfl ⟨⟨rfl, rfl⟩, Nat.le_of_ble_eq_true rfl, Nat.le_of_ble_eq_true rfl⟩ hl.1 rfl (Nat.le_of_ble_eq_true rfl) dX0_refusal_45 hf (fun o ho => c_X0_inBounds l X hinj hZ N S c0 x1 x2 x3 i0 o ho) (fun v45 S45 H locs hf hw => ?_)
  refine r_if_eq C (tgt := 55) dX0_refusal_48 (by decide) hf (fun hf => ?_) (fun hf => ?_)
  · refine lv_iconst (v := 1) C.1.1 C.1.2.1 dX0_refusal_55 (by decide) ?_
    exact r_retI C hw dX0_refusal_56 hf
  · refine lv_iconst (v := (-1)) C.1.1 C.1.2.1 dX0_refusal_51 (by decide) ?_
    refine lv_goto (tgt := 56) C.1.1 C.1.2.1 dX0_refusal_52 (by decide) ?_
    exact r_retI C hw dX0_refusal_56 hf
set_option maxRecDepth 100000 in
set_option maxHeartbeats 4000000 in
theorem w_X0_refusal_17 {p : Program} (l : Launch) {e : Env} {s : State} {m : MethodId} {args : Array Value} {below : List Frame} {meth : Method} {c : Code} {X : XT} (hinj : XInj X nC) (hZ : ZOK (Zc X)) (C : CX p s m args meth c cX0_refusal 5 RX0 (some .int) X nC (Zc X)) (out : Int32 × S2) (c0 : Nat) (i0 : Is0 c0) : ∀ (N : Nat), ∀ (x1 : Int32) (x2 : Int32) (x3 : Int32) (y0 : Int32) (S : S2) (H : Heap) (locs : List Loc) (ls : Array Slot), f_X0_refusal_17 c0 N x1 x2 x3 y0 S = some out → WH X shC nC s S H locs → lv_has ls 5 [(0, .ref (X.2.2 c0)), (1, .int x1), (2, .int x2), (3, .int x3)] → W p l e rmX0_refusal s m args below meth c H locs 0 0 (QI X shC nC s args below out) (F0 m 17 ls [.int y0]) := by
  intro N x1 x2 x3 y0 S H locs ls hf hw hl
  unfold f_X0_refusal_17 at hf
  refine lv_istore (lv' := [(4, .int y0), (0, .ref (X.2.2 c0)), (1, .int x1), (2, .int x2), (3, .int x3)]) C.1.1 C.1.2.1 dX0_refusal_17 hl (by decide) rfl (fun ls hl => ?_)
  refine lv_aload_n C.1.1 C.1.2.1 dX0_refusal_19 rfl (lv_at hl 1 rfl) ?_
  refine r_getI (k := 1) C hw (is0_s i0) (is0_l i0) cO0 rfl (by decide) tw1_89 rfl dX0_refusal_20 hf (fun v20 hf => ?_)
  refine r_if_eq C (tgt := 39) dX0_refusal_23 (by decide) hf (fun hf => ?_) (fun hf => ?_)
  · refine lv_iconst (v := 0) C.1.1 C.1.2.1 dX0_refusal_39 (by decide) ?_
    exact r_retI C hw dX0_refusal_40 hf
  · refine lv_iload C.1.1 C.1.2.1 dX0_refusal_26 (lv_at hl 0 rfl) ?_
    refine r_if_eq C (tgt := 41) dX0_refusal_28 (by decide) hf (fun hf => ?_) (fun hf => ?_)
    · exact (w_X0_refusal_41 l hinj hZ C out c0 i0 N) x1 x2 x3 S H locs ls hf hw (lv_sub hl [1, 2, 3, 4] rfl)
    · refine lv_aload_n C.1.1 C.1.2.1 dX0_refusal_31 rfl (lv_at hl 1 rfl) ?_
      refine lv_iload_n C.1.1 C.1.2.1 dX0_refusal_32 rfl (lv_at hl 3 rfl) ?_
      refine r_callI (As := [.int x2]) (rest := []) (rm := rmX0_has) C hw (is0_s i0) (is0_l i0) cO0 tw3_168 tw3_145 tw3_146 tw1_4 tw3_147 hd_X0_has rfl ⟨⟨rfl, rfl⟩, Nat.le_of_ble_eq_true rfl, Nat.le_of_ble_eq_true rfl⟩ hl.1 rfl (Nat.le_of_ble_eq_true rfl) dX0_refusal_33 hf (fun o ho => c_X0_has l X hinj hZ N S c0 x2 i0 o ho) (fun v33 S33 H locs hf hw => ?_)
      refine r_if_ne C (tgt := 41) dX0_refusal_36 (by decide) hf (fun hf => ?_) (fun hf => ?_)
      · exact (w_X0_refusal_41 l hinj hZ C out c0 i0 N) x1 x2 x3 S33 H locs ls hf hw (lv_sub hl [1, 2, 3, 4] rfl)
      · refine lv_iconst (v := 0) C.1.1 C.1.2.1 dX0_refusal_39 (by decide) ?_
        exact r_retI C hw dX0_refusal_40 hf
set_option maxRecDepth 100000 in
set_option maxHeartbeats 4000000 in
theorem w_X0_refusal_12 {p : Program} (l : Launch) {e : Env} {s : State} {m : MethodId} {args : Array Value} {below : List Frame} {meth : Method} {c : Code} {X : XT} (hinj : XInj X nC) (hZ : ZOK (Zc X)) (C : CX p s m args meth c cX0_refusal 5 RX0 (some .int) X nC (Zc X)) (out : Int32 × S2) (c0 : Nat) (i0 : Is0 c0) : ∀ (N : Nat), ∀ (x1 : Int32) (x2 : Int32) (x3 : Int32) (S : S2) (H : Heap) (locs : List Loc) (ls : Array Slot), f_X0_refusal_12 c0 N x1 x2 x3 S = some out → WH X shC nC s S H locs → lv_has ls 5 [(0, .ref (X.2.2 c0)), (1, .int x1), (2, .int x2), (3, .int x3)] → W p l e rmX0_refusal s m args below meth c H locs 0 0 (QI X shC nC s args below out) (F0 m 12 ls []) := by
  intro N x1 x2 x3 S H locs ls hf hw hl
  unfold f_X0_refusal_12 at hf
  refine lv_iconst (v := 1) C.1.1 C.1.2.1 dX0_refusal_12 (by decide) ?_
  refine lv_goto (tgt := 17) C.1.1 C.1.2.1 dX0_refusal_13 (by decide) ?_
  exact (w_X0_refusal_17 l hinj hZ C out c0 i0 N) x1 x2 x3 1 S H locs ls hf hw (lv_sub hl [0, 1, 2, 3] rfl)
set_option maxRecDepth 100000 in
set_option maxHeartbeats 4000000 in
theorem c_X0_refusal (l : Launch) (X : XT) (hinj : XInj X nC) (hZ : ZOK (Zc X)) (N : Nat) (S : S2) (c0 : Nat) (a1 : Int32) (a2 : Int32) (a3 : Int32) (i0 : Is0 c0) (out : Int32 × S2) (hf : f_X0_refusal N S c0 a1 a2 a3 = some out) : MI l X shC nC (Zc X) yX0_refusal cX0_refusal 5 (some .int) rmX0_refusal [.ref (X.2.2 c0), .int a1, .int a2, .int a3] S out := by
  refine met_I (own := RX0) (by decide) rfl hinj hZ (Nat.le_of_ble_eq_true rfl) (fun p e s m args below meth c C ls H locs hw hl => ?_)
  unfold f_X0_refusal at hf
  have hl : lv_has ls 5 [(0, .ref (X.2.2 c0)), (1, .int a1), (2, .int a2), (3, .int a3)] := hl
  refine lv_iload_n C.1.1 C.1.2.1 dX0_refusal_0 rfl (lv_at hl 1 rfl) ?_
  refine lv_bipush (v := 7) C.1.1 C.1.2.1 dX0_refusal_1 (by decide) ?_
  refine r_icmp_eq C (tgt := 12) dX0_refusal_3 (by decide) hf (fun hf => ?_) (fun hf => ?_)
  · exact (w_X0_refusal_12 l hinj hZ C out c0 i0 N) a1 a2 a3 S H locs ls hf hw (lv_sub hl [0, 1, 2, 3] rfl)
  · refine lv_iload_n C.1.1 C.1.2.1 dX0_refusal_6 rfl (lv_at hl 1 rfl) ?_
    refine lv_bipush (v := 9) C.1.1 C.1.2.1 dX0_refusal_7 (by decide) ?_
    refine r_icmp_ne C (tgt := 16) dX0_refusal_9 (by decide) hf (fun hf => ?_) (fun hf => ?_)
    · refine lv_iconst (v := 0) C.1.1 C.1.2.1 dX0_refusal_16 (by decide) ?_
      exact (w_X0_refusal_17 l hinj hZ C out c0 i0 N) a1 a2 a3 0 S H locs ls hf hw (lv_sub hl [0, 1, 2, 3] rfl)
    · exact (w_X0_refusal_12 l hinj hZ C out c0 i0 N) a1 a2 a3 S H locs ls hf hw (lv_sub hl [0, 1, 2, 3] rfl)
def f_X0_blend_102 (c0 : Nat) (N : Nat) (S : S2) : Option (Int32 × S2) := gI S c0 1 fun v103 => rI v103 S
def f_X0_blend_92 (c0 : Nat) (k20 : Int32 → Int32 → Int32 → S2 → Option (Int32 × S2)) (N : Nat) (x1 : Int32) (x3 : Int32) (x4 : Int32) (y0 : Int32) (y1 : Int32) (S : S2) : Option (Int32 × S2) := sI S (c0 + 1) 48 y1 y0 fun S92 => k20 x1 x4 (x3 + 1) S92
def f_X0_blend_59 (c0 : Nat) (k20 : Int32 → Int32 → Int32 → S2 → Option (Int32 × S2)) (N : Nat) (x1 : Int32) (x2 : Int32) (x3 : Int32) (x4 : Int32) (y0 : Int32) (S : S2) : Option (Int32 × S2) := (if x1 = 0 then nz 4 <| (f_X0_blend_92 c0 k20 N) x1 x3 x4 (((x2 + (2 * x4)) + y0) / 4) x3 S else bI (f_X0_middle N S x2 x4 y0) fun v75 S75 => (f_X0_blend_92 c0 k20 N) x1 x3 x4 v75 x3 S75)
def f_X0_blend_20 (c0 : Nat) (k102 : S2 → Option (Int32 × S2)) : Nat → Int32 → Int32 → Int32 → S2 → Option (Int32 × S2)
  | 0, _, _, _, _ => none
  | N + 1, x1, x2, x3, S => gI S c0 1 fun v22 => (if v22 ≤ x3 then k102 S else aI S (c0 + 1) 48 x3 fun v33 => bI (f_X0_has N S c0 (x3 + 1)) fun v40 S40 => (if v40 = 0 then (f_X0_blend_59 c0 (f_X0_blend_20 c0 k102 N) N) x1 x2 x3 v33 v33 S40 else aI S40 (c0 + 1) 48 (x3 + 1) fun v53 => (f_X0_blend_59 c0 (f_X0_blend_20 c0 k102 N) N) x1 x2 x3 v33 v53 S40))
def f_X0_blend_17 (c0 : Nat) (N : Nat) (x1 : Int32) (y0 : Int32) (S : S2) : Option (Int32 × S2) := (f_X0_blend_20 c0 (f_X0_blend_102 c0 N) N) x1 y0 0 S
def f_X0_blend (N : Nat) (S : S2) (c0 : Nat) (a1 : Int32) : Option (Int32 × S2) := gI S c0 1 fun v1 => (if v1 ≤ 0 then (f_X0_blend_17 c0 N) a1 0 S else aI S (c0 + 1) 48 0 fun v12 => (f_X0_blend_17 c0 N) a1 v12 S)
abbrev rmX0_blend : Room := { frames := 2, cells := 0, slots := 0, locals := 45 }
theorem hd_X0_blend : yX0_blend.cls ≠ "java/lang/invoke/MethodHandle" ∧ yX0_blend.cls ≠ "java/lang/invoke/VarHandle" ∧ (parseMethodDescriptor yX0_blend.desc).map (fun d => d.parameters.length) = some 1 := by decide +kernel
set_option maxRecDepth 100000 in
set_option maxHeartbeats 4000000 in
theorem w_X0_blend_102 {p : Program} (l : Launch) {e : Env} {s : State} {m : MethodId} {args : Array Value} {below : List Frame} {meth : Method} {c : Code} {X : XT} (hinj : XInj X nC) (hZ : ZOK (Zc X)) (C : CX p s m args meth c cX0_blend 6 RX0 (some .int) X nC (Zc X)) (out : Int32 × S2) (c0 : Nat) (i0 : Is0 c0) : ∀ (N : Nat), ∀ (S : S2) (H : Heap) (locs : List Loc) (ls : Array Slot), f_X0_blend_102 c0 N S = some out → WH X shC nC s S H locs → lv_has ls 6 [(0, .ref (X.2.2 c0))] → W p l e rmX0_blend s m args below meth c H locs 0 0 (QI X shC nC s args below out) (F0 m 102 ls []) := by
  intro N S H locs ls hf hw hl
  unfold f_X0_blend_102 at hf
  refine lv_aload_n C.1.1 C.1.2.1 dX0_blend_102 rfl (lv_at hl 0 rfl) ?_
  refine r_getI (k := 1) C hw (is0_s i0) (is0_l i0) cO0 rfl (by decide) tw1_89 rfl dX0_blend_103 hf (fun v103 hf => ?_)
  exact r_retI C hw dX0_blend_106 hf
set_option maxRecDepth 100000 in
set_option maxHeartbeats 4000000 in
theorem w_X0_blend_92 {p : Program} (l : Launch) {e : Env} {s : State} {m : MethodId} {args : Array Value} {below : List Frame} {meth : Method} {c : Code} {X : XT} (hinj : XInj X nC) (hZ : ZOK (Zc X)) (C : CX p s m args meth c cX0_blend 6 RX0 (some .int) X nC (Zc X)) (out : Int32 × S2) (c0 : Nat) (i0 : Is0 c0) (k20 : Int32 → Int32 → Int32 → S2 → Option (Int32 × S2)) (hk20 : ∀ (x1 : Int32) (x2 : Int32) (x3 : Int32) (S : S2) (H : Heap) (locs : List Loc) (ls : Array Slot), k20 x1 x2 x3 S = some out → WH X shC nC s S H locs → lv_has ls 6 [(0, .ref (X.2.2 c0)), (1, .int x1), (2, .int x2), (3, .int x3)] → W p l e rmX0_blend s m args below meth c H locs 0 0 (QI X shC nC s args below out) (F0 m 20 ls [])) : ∀ (N : Nat), ∀ (x1 : Int32) (x3 : Int32) (x4 : Int32) (y0 : Int32) (y1 : Int32) (S : S2) (H : Heap) (locs : List Loc) (ls : Array Slot), f_X0_blend_92 c0 k20 N x1 x3 x4 y0 y1 S = some out → WH X shC nC s S H locs → lv_has ls 6 [(0, .ref (X.2.2 c0)), (1, .int x1), (3, .int x3), (4, .int x4)] → W p l e rmX0_blend s m args below meth c H locs 0 0 (QI X shC nC s args below out) (F0 m 92 ls [.int y0, .int y1, .ref (X.2.2 (c0 + 1))]) := by
  intro N x1 x3 x4 y0 y1 S H locs ls hf hw hl
  unfold f_X0_blend_92 at hf
  refine r_iast C hw (is0_s1 i0) (is0_l1 i0) dX0_blend_92 hf (fun S92 H locs hf hw => ?_)
  refine lv_iload C.1.1 C.1.2.1 dX0_blend_93 (lv_at hl 3 rfl) ?_
  refine lv_istore_n (lv' := [(2, .int x4), (0, .ref (X.2.2 c0)), (1, .int x1), (3, .int x3), (4, .int x4)]) C.1.1 C.1.2.1 dX0_blend_95 rfl hl (by decide) rfl (fun ls hl => ?_)
  refine lv_iinc (v := (x3 + 1)) (lv' := [(3, .int (x3 + 1)), (2, .int x4), (0, .ref (X.2.2 c0)), (1, .int x1), (4, .int x4)]) C.1.1 C.1.2.1 dX0_blend_96 hl (k := 3) rfl (by rfl) (by decide) rfl (fun ls hl => ?_)
  refine lv_goto (tgt := 20) C.1.1 C.1.2.1 dX0_blend_99 (by decide) ?_
  exact hk20 x1 x4 (x3 + 1) S92 H locs ls hf hw (lv_sub hl [2, 3, 1, 0] rfl)
set_option maxRecDepth 100000 in
set_option maxHeartbeats 4000000 in
theorem w_X0_blend_59 {p : Program} (l : Launch) {e : Env} {s : State} {m : MethodId} {args : Array Value} {below : List Frame} {meth : Method} {c : Code} {X : XT} (hinj : XInj X nC) (hZ : ZOK (Zc X)) (C : CX p s m args meth c cX0_blend 6 RX0 (some .int) X nC (Zc X)) (out : Int32 × S2) (c0 : Nat) (i0 : Is0 c0) (k20 : Int32 → Int32 → Int32 → S2 → Option (Int32 × S2)) (hk20 : ∀ (x1 : Int32) (x2 : Int32) (x3 : Int32) (S : S2) (H : Heap) (locs : List Loc) (ls : Array Slot), k20 x1 x2 x3 S = some out → WH X shC nC s S H locs → lv_has ls 6 [(0, .ref (X.2.2 c0)), (1, .int x1), (2, .int x2), (3, .int x3)] → W p l e rmX0_blend s m args below meth c H locs 0 0 (QI X shC nC s args below out) (F0 m 20 ls [])) : ∀ (N : Nat), ∀ (x1 : Int32) (x2 : Int32) (x3 : Int32) (x4 : Int32) (y0 : Int32) (S : S2) (H : Heap) (locs : List Loc) (ls : Array Slot), f_X0_blend_59 c0 k20 N x1 x2 x3 x4 y0 S = some out → WH X shC nC s S H locs → lv_has ls 6 [(0, .ref (X.2.2 c0)), (1, .int x1), (2, .int x2), (3, .int x3), (4, .int x4)] → W p l e rmX0_blend s m args below meth c H locs 0 0 (QI X shC nC s args below out) (F0 m 59 ls [.int y0]) := by
  intro N x1 x2 x3 x4 y0 S H locs ls hf hw hl
  unfold f_X0_blend_59 at hf
  refine lv_istore (lv' := [(5, .int y0), (0, .ref (X.2.2 c0)), (1, .int x1), (2, .int x2), (3, .int x3), (4, .int x4)]) C.1.1 C.1.2.1 dX0_blend_59 hl (by decide) rfl (fun ls hl => ?_)
  refine lv_aload_n C.1.1 C.1.2.1 dX0_blend_61 rfl (lv_at hl 1 rfl) ?_
  refine r_getR (k := 0) C hw (is0_s i0) (is0_l i0) cO0 rfl (by decide) tw1_85 rfl dX0_blend_62 ?_
  refine lv_iload_n C.1.1 C.1.2.1 dX0_blend_65 rfl (lv_at hl 4 rfl) ?_
  refine lv_iload_n C.1.1 C.1.2.1 dX0_blend_66 rfl (lv_at hl 2 rfl) ?_
  refine r_if_eq C (tgt := 81) dX0_blend_67 (by decide) hf (fun hf => ?_) (fun hf => ?_)
  · refine lv_iload_n C.1.1 C.1.2.1 dX0_blend_81 rfl (lv_at hl 3 rfl) ?_
    refine lv_iconst (v := 2) C.1.1 C.1.2.1 dX0_blend_82 (by decide) ?_
    refine lv_iload C.1.1 C.1.2.1 dX0_blend_83 (lv_at hl 5 rfl) ?_
    refine lv_imul C.1.1 C.1.2.1 dX0_blend_85 ?_
    refine lv_iadd C.1.1 C.1.2.1 dX0_blend_86 ?_
    refine lv_iload C.1.1 C.1.2.1 dX0_blend_87 (lv_at hl 0 rfl) ?_
    refine lv_iadd C.1.1 C.1.2.1 dX0_blend_89 ?_
    refine lv_iconst (v := 4) C.1.1 C.1.2.1 dX0_blend_90 (by decide) ?_
    obtain ⟨hne, hf⟩ := nz_some hf
    refine lv_idiv C.1.1 C.1.2.1 dX0_blend_91 hne ?_
    exact (w_X0_blend_92 l hinj hZ C out c0 i0 k20 hk20 N) x1 x3 x4 (((x2 + (2 * x4)) + y0) / 4) x3 S H locs ls hf hw (lv_sub hl [1, 2, 4, 5] rfl)
  · refine lv_iload_n C.1.1 C.1.2.1 dX0_blend_70 rfl (lv_at hl 3 rfl) ?_
    refine lv_iload C.1.1 C.1.2.1 dX0_blend_71 (lv_at hl 5 rfl) ?_
    refine lv_iload C.1.1 C.1.2.1 dX0_blend_73 (lv_at hl 0 rfl) ?_
    refine r_scallI (As := [.int x2, .int x4, .int y0]) (rest := [.int x3, .ref (X.2.2 (c0 + 1))]) (rm := rmX0_middle) C hw tw4_14 tw4_15 tw1_4 tw4_16 hd_X0_middle rfl ⟨⟨rfl, rfl⟩, Nat.le_of_ble_eq_true rfl, Nat.le_of_ble_eq_true rfl⟩ hl.1 rfl (Nat.le_of_ble_eq_true rfl) dX0_blend_75 hf (fun o ho => c_X0_middle l X hinj hZ N S x2 x4 y0 o ho) (fun v75 S75 H locs hf hw => ?_)
    refine lv_goto (tgt := 92) C.1.1 C.1.2.1 dX0_blend_78 (by decide) ?_
    exact (w_X0_blend_92 l hinj hZ C out c0 i0 k20 hk20 N) x1 x3 x4 v75 x3 S75 H locs ls hf hw (lv_sub hl [1, 2, 4, 5] rfl)
set_option maxRecDepth 100000 in
set_option maxHeartbeats 4000000 in
theorem w_X0_blend_20 {p : Program} (l : Launch) {e : Env} {s : State} {m : MethodId} {args : Array Value} {below : List Frame} {meth : Method} {c : Code} {X : XT} (hinj : XInj X nC) (hZ : ZOK (Zc X)) (C : CX p s m args meth c cX0_blend 6 RX0 (some .int) X nC (Zc X)) (out : Int32 × S2) (c0 : Nat) (i0 : Is0 c0) (k102 : S2 → Option (Int32 × S2)) (hk102 : ∀ (S : S2) (H : Heap) (locs : List Loc) (ls : Array Slot), k102 S = some out → WH X shC nC s S H locs → lv_has ls 6 [(0, .ref (X.2.2 c0))] → W p l e rmX0_blend s m args below meth c H locs 0 0 (QI X shC nC s args below out) (F0 m 102 ls [])) : ∀ (N : Nat), ∀ (x1 : Int32) (x2 : Int32) (x3 : Int32) (S : S2) (H : Heap) (locs : List Loc) (ls : Array Slot), f_X0_blend_20 c0 k102 N x1 x2 x3 S = some out → WH X shC nC s S H locs → lv_has ls 6 [(0, .ref (X.2.2 c0)), (1, .int x1), (2, .int x2), (3, .int x3)] → W p l e rmX0_blend s m args below meth c H locs 0 0 (QI X shC nC s args below out) (F0 m 20 ls []) := by
  intro N
  induction N with
  | zero => intro x1 x2 x3 S H locs ls hf hw hl; cases hf
  | succ N ih =>
    intro x1 x2 x3 S H locs ls hf hw hl
    rw [f_X0_blend_20.eq_2] at hf
    refine lv_iload_n C.1.1 C.1.2.1 dX0_blend_20 rfl (lv_at hl 3 rfl) ?_
    refine lv_aload_n C.1.1 C.1.2.1 dX0_blend_21 rfl (lv_at hl 0 rfl) ?_
    refine r_getI (k := 1) C hw (is0_s i0) (is0_l i0) cO0 rfl (by decide) tw1_89 rfl dX0_blend_22 hf (fun v22 hf => ?_)
    refine r_icmp_ge C (tgt := 102) dX0_blend_25 (by decide) hf (fun hf => ?_) (fun hf => ?_)
    · exact hk102 S H locs ls hf hw (lv_sub hl [0] rfl)
    · refine lv_aload_n C.1.1 C.1.2.1 dX0_blend_28 rfl (lv_at hl 0 rfl) ?_
      refine r_getR (k := 0) C hw (is0_s i0) (is0_l i0) cO0 rfl (by decide) tw1_85 rfl dX0_blend_29 ?_
      refine lv_iload_n C.1.1 C.1.2.1 dX0_blend_32 rfl (lv_at hl 3 rfl) ?_
      refine r_iald C hw (is0_s1 i0) (is0_l1 i0) dX0_blend_33 hf (fun v33 hf => ?_)
      refine lv_istore (lv' := [(4, .int v33), (0, .ref (X.2.2 c0)), (1, .int x1), (2, .int x2), (3, .int x3)]) C.1.1 C.1.2.1 dX0_blend_34 hl (by decide) rfl (fun ls hl => ?_)
      refine lv_aload_n C.1.1 C.1.2.1 dX0_blend_36 rfl (lv_at hl 1 rfl) ?_
      refine lv_iload_n C.1.1 C.1.2.1 dX0_blend_37 rfl (lv_at hl 4 rfl) ?_
      refine lv_iconst (v := 1) C.1.1 C.1.2.1 dX0_blend_38 (by decide) ?_
      refine lv_iadd C.1.1 C.1.2.1 dX0_blend_39 ?_
      refine r_callI (As := [.int (x3 + 1)]) (rest := []) (rm := rmX0_has) C hw (is0_s i0) (is0_l i0) cO0 tw3_168 tw3_145 tw3_146 tw1_4 tw3_147 hd_X0_has rfl ⟨⟨rfl, rfl⟩, Nat.le_of_ble_eq_true rfl, Nat.le_of_ble_eq_true rfl⟩ hl.1 rfl (Nat.le_of_ble_eq_true rfl) dX0_blend_40 hf (fun o ho => c_X0_has l X hinj hZ N S c0 (x3 + 1) i0 o ho) (fun v40 S40 H locs hf hw => ?_)
      refine r_if_eq C (tgt := 57) dX0_blend_43 (by decide) hf (fun hf => ?_) (fun hf => ?_)
      · refine lv_iload C.1.1 C.1.2.1 dX0_blend_57 (lv_at hl 0 rfl) ?_
        exact (w_X0_blend_59 l hinj hZ C out c0 i0 (f_X0_blend_20 c0 k102 N) ih N) x1 x2 x3 v33 v33 S40 H locs ls hf hw (lv_sub hl [1, 2, 3, 4, 0] rfl)
      · refine lv_aload_n C.1.1 C.1.2.1 dX0_blend_46 rfl (lv_at hl 1 rfl) ?_
        refine r_getR (k := 0) C hw (is0_s i0) (is0_l i0) cO0 rfl (by decide) tw1_85 rfl dX0_blend_47 ?_
        refine lv_iload_n C.1.1 C.1.2.1 dX0_blend_50 rfl (lv_at hl 4 rfl) ?_
        refine lv_iconst (v := 1) C.1.1 C.1.2.1 dX0_blend_51 (by decide) ?_
        refine lv_iadd C.1.1 C.1.2.1 dX0_blend_52 ?_
        refine r_iald C hw (is0_s1 i0) (is0_l1 i0) dX0_blend_53 hf (fun v53 hf => ?_)
        refine lv_goto (tgt := 59) C.1.1 C.1.2.1 dX0_blend_54 (by decide) ?_
        exact (w_X0_blend_59 l hinj hZ C out c0 i0 (f_X0_blend_20 c0 k102 N) ih N) x1 x2 x3 v33 v53 S40 H locs ls hf hw (lv_sub hl [1, 2, 3, 4, 0] rfl)
set_option maxRecDepth 100000 in
set_option maxHeartbeats 4000000 in
theorem w_X0_blend_17 {p : Program} (l : Launch) {e : Env} {s : State} {m : MethodId} {args : Array Value} {below : List Frame} {meth : Method} {c : Code} {X : XT} (hinj : XInj X nC) (hZ : ZOK (Zc X)) (C : CX p s m args meth c cX0_blend 6 RX0 (some .int) X nC (Zc X)) (out : Int32 × S2) (c0 : Nat) (i0 : Is0 c0) : ∀ (N : Nat), ∀ (x1 : Int32) (y0 : Int32) (S : S2) (H : Heap) (locs : List Loc) (ls : Array Slot), f_X0_blend_17 c0 N x1 y0 S = some out → WH X shC nC s S H locs → lv_has ls 6 [(0, .ref (X.2.2 c0)), (1, .int x1)] → W p l e rmX0_blend s m args below meth c H locs 0 0 (QI X shC nC s args below out) (F0 m 17 ls [.int y0]) := by
  intro N x1 y0 S H locs ls hf hw hl
  unfold f_X0_blend_17 at hf
  refine lv_istore_n (lv' := [(2, .int y0), (0, .ref (X.2.2 c0)), (1, .int x1)]) C.1.1 C.1.2.1 dX0_blend_17 rfl hl (by decide) rfl (fun ls hl => ?_)
  refine lv_iconst (v := 0) C.1.1 C.1.2.1 dX0_blend_18 (by decide) ?_
  refine lv_istore_n (lv' := [(3, .int 0), (2, .int y0), (0, .ref (X.2.2 c0)), (1, .int x1)]) C.1.1 C.1.2.1 dX0_blend_19 rfl hl (by decide) rfl (fun ls hl => ?_)
  exact (w_X0_blend_20 l hinj hZ C out c0 i0 (f_X0_blend_102 c0 N) (w_X0_blend_102 l hinj hZ C out c0 i0 N) N) x1 y0 0 S H locs ls hf hw (lv_sub hl [2, 3, 1, 0] rfl)
set_option maxRecDepth 100000 in
set_option maxHeartbeats 4000000 in
theorem c_X0_blend (l : Launch) (X : XT) (hinj : XInj X nC) (hZ : ZOK (Zc X)) (N : Nat) (S : S2) (c0 : Nat) (a1 : Int32) (i0 : Is0 c0) (out : Int32 × S2) (hf : f_X0_blend N S c0 a1 = some out) : MI l X shC nC (Zc X) yX0_blend cX0_blend 6 (some .int) rmX0_blend [.ref (X.2.2 c0), .int a1] S out := by
  refine met_I (own := RX0) (by decide) rfl hinj hZ (Nat.le_of_ble_eq_true rfl) (fun p e s m args below meth c C ls H locs hw hl => ?_)
  unfold f_X0_blend at hf
  have hl : lv_has ls 6 [(0, .ref (X.2.2 c0)), (1, .int a1)] := hl
  refine lv_aload_n C.1.1 C.1.2.1 dX0_blend_0 rfl (lv_at hl 0 rfl) ?_
  refine r_getI (k := 1) C hw (is0_s i0) (is0_l i0) cO0 rfl (by decide) tw1_89 rfl dX0_blend_1 hf (fun v1 hf => ?_)
  refine r_if_le C (tgt := 16) dX0_blend_4 (by decide) hf (fun hf => ?_) (fun hf => ?_)
  · refine lv_iconst (v := 0) C.1.1 C.1.2.1 dX0_blend_16 (by decide) ?_
    exact (w_X0_blend_17 l hinj hZ C out c0 i0 N) a1 0 S H locs ls hf hw (lv_sub hl [0, 1] rfl)
  · refine lv_aload_n C.1.1 C.1.2.1 dX0_blend_7 rfl (lv_at hl 0 rfl) ?_
    refine r_getR (k := 0) C hw (is0_s i0) (is0_l i0) cO0 rfl (by decide) tw1_85 rfl dX0_blend_8 ?_
    refine lv_iconst (v := 0) C.1.1 C.1.2.1 dX0_blend_11 (by decide) ?_
    refine r_iald C hw (is0_s1 i0) (is0_l1 i0) dX0_blend_12 hf (fun v12 hf => ?_)
    refine lv_goto (tgt := 17) C.1.1 C.1.2.1 dX0_blend_13 (by decide) ?_
    exact (w_X0_blend_17 l hinj hZ C out c0 i0 N) a1 v12 S H locs ls hf hw (lv_sub hl [0, 1] rfl)
def f_X0_flatten_48 (c0 : Nat) (c1 : Nat) (k11 : Int32 → Int32 → S2 → Option (Int32 × S2)) (N : Nat) (x3 : Int32) (x4 : Int32) (S : S2) : Option (Int32 × S2) := k11 x3 (x4 + 1) S
def f_X0_flatten_11 (c0 : Nat) (c1 : Nat) : Nat → Int32 → Int32 → S2 → Option (Int32 × S2)
  | 0, _, _, _ => none
  | N + 1, x3, x4, S => gI S c0 1 fun v14 => (if v14 ≤ x4 then rI x3 S else aI S (c1 + 13) 48 x4 fun v23 => aI S (c0 + 1) 48 x4 fun v30 => (if v30 ≤ v23 then (f_X0_flatten_48 c0 c1 (f_X0_flatten_11 c0 c1 N) N) x3 x4 S else aI S (c1 + 13) 48 x4 fun v43 => sI S (c0 + 1) 48 x4 v43 fun S44 => (f_X0_flatten_48 c0 c1 (f_X0_flatten_11 c0 c1 N) N) (x3 + 1) x4 S44))
def f_X0_flatten (N : Nat) (S : S2) (c0 : Nat) (c1 : Nat) : Option (Int32 × S2) := bV (f_X5_flatLevels N S c1 c0) fun S2 => (f_X0_flatten_11 c0 c1 N) 0 0 S2
abbrev rmX0_flatten : Room := { frames := 2, cells := 0, slots := 0, locals := 52 }
theorem hd_X0_flatten : yX0_flatten.cls ≠ "java/lang/invoke/MethodHandle" ∧ yX0_flatten.cls ≠ "java/lang/invoke/VarHandle" ∧ (parseMethodDescriptor yX0_flatten.desc).map (fun d => d.parameters.length) = some 1 := by decide +kernel
set_option maxRecDepth 100000 in
set_option maxHeartbeats 4000000 in
theorem w_X0_flatten_48 {p : Program} (l : Launch) {e : Env} {s : State} {m : MethodId} {args : Array Value} {below : List Frame} {meth : Method} {c : Code} {X : XT} (hinj : XInj X nC) (hZ : ZOK (Zc X)) (C : CX p s m args meth c cX0_flatten 5 RX0 (some .int) X nC (Zc X)) (out : Int32 × S2) (c0 : Nat) (c1 : Nat) (i0 : Is0 c0) (i1 : Is5 c1) (k11 : Int32 → Int32 → S2 → Option (Int32 × S2)) (hk11 : ∀ (x3 : Int32) (x4 : Int32) (S : S2) (H : Heap) (locs : List Loc) (ls : Array Slot), k11 x3 x4 S = some out → WH X shC nC s S H locs → lv_has ls 5 [(0, .ref (X.2.2 c0)), (2, .ref (X.2.2 (c1 + 13))), (3, .int x3), (4, .int x4)] → W p l e rmX0_flatten s m args below meth c H locs 0 0 (QI X shC nC s args below out) (F0 m 11 ls [])) : ∀ (N : Nat), ∀ (x3 : Int32) (x4 : Int32) (S : S2) (H : Heap) (locs : List Loc) (ls : Array Slot), f_X0_flatten_48 c0 c1 k11 N x3 x4 S = some out → WH X shC nC s S H locs → lv_has ls 5 [(0, .ref (X.2.2 c0)), (2, .ref (X.2.2 (c1 + 13))), (3, .int x3), (4, .int x4)] → W p l e rmX0_flatten s m args below meth c H locs 0 0 (QI X shC nC s args below out) (F0 m 48 ls []) := by
  intro N x3 x4 S H locs ls hf hw hl
  unfold f_X0_flatten_48 at hf
  refine lv_iinc (v := (x4 + 1)) (lv' := [(4, .int (x4 + 1)), (0, .ref (X.2.2 c0)), (2, .ref (X.2.2 (c1 + 13))), (3, .int x3)]) C.1.1 C.1.2.1 dX0_flatten_48 hl (k := 3) rfl (by rfl) (by decide) rfl (fun ls hl => ?_)
  refine lv_goto (tgt := 11) C.1.1 C.1.2.1 dX0_flatten_51 (by decide) ?_
  exact hk11 x3 (x4 + 1) S H locs ls hf hw (lv_sub hl [1, 2, 3, 0] rfl)
set_option maxRecDepth 100000 in
set_option maxHeartbeats 4000000 in
theorem w_X0_flatten_11 {p : Program} (l : Launch) {e : Env} {s : State} {m : MethodId} {args : Array Value} {below : List Frame} {meth : Method} {c : Code} {X : XT} (hinj : XInj X nC) (hZ : ZOK (Zc X)) (C : CX p s m args meth c cX0_flatten 5 RX0 (some .int) X nC (Zc X)) (out : Int32 × S2) (c0 : Nat) (c1 : Nat) (i0 : Is0 c0) (i1 : Is5 c1) : ∀ (N : Nat), ∀ (x3 : Int32) (x4 : Int32) (S : S2) (H : Heap) (locs : List Loc) (ls : Array Slot), f_X0_flatten_11 c0 c1 N x3 x4 S = some out → WH X shC nC s S H locs → lv_has ls 5 [(0, .ref (X.2.2 c0)), (2, .ref (X.2.2 (c1 + 13))), (3, .int x3), (4, .int x4)] → W p l e rmX0_flatten s m args below meth c H locs 0 0 (QI X shC nC s args below out) (F0 m 11 ls []) := by
  intro N
  induction N with
  | zero => intro x3 x4 S H locs ls hf hw hl; cases hf
  | succ N ih =>
    intro x3 x4 S H locs ls hf hw hl
    rw [f_X0_flatten_11.eq_2] at hf
    refine lv_iload C.1.1 C.1.2.1 dX0_flatten_11 (lv_at hl 3 rfl) ?_
    refine lv_aload_n C.1.1 C.1.2.1 dX0_flatten_13 rfl (lv_at hl 0 rfl) ?_
    refine r_getI (k := 1) C hw (is0_s i0) (is0_l i0) cO0 rfl (by decide) tw1_89 rfl dX0_flatten_14 hf (fun v14 hf => ?_)
    refine r_icmp_ge C (tgt := 54) dX0_flatten_17 (by decide) hf (fun hf => ?_) (fun hf => ?_)
    · refine lv_iload_n C.1.1 C.1.2.1 dX0_flatten_54 rfl (lv_at hl 2 rfl) ?_
      exact r_retI C hw dX0_flatten_55 hf
    · refine lv_aload_n C.1.1 C.1.2.1 dX0_flatten_20 rfl (lv_at hl 1 rfl) ?_
      refine lv_iload C.1.1 C.1.2.1 dX0_flatten_21 (lv_at hl 3 rfl) ?_
      refine r_iald C hw (is5_s13 i1) (is5_l13 i1) dX0_flatten_23 hf (fun v23 hf => ?_)
      refine lv_aload_n C.1.1 C.1.2.1 dX0_flatten_24 rfl (lv_at hl 0 rfl) ?_
      refine r_getR (k := 0) C hw (is0_s i0) (is0_l i0) cO0 rfl (by decide) tw1_85 rfl dX0_flatten_25 ?_
      refine lv_iload C.1.1 C.1.2.1 dX0_flatten_28 (lv_at hl 3 rfl) ?_
      refine r_iald C hw (is0_s1 i0) (is0_l1 i0) dX0_flatten_30 hf (fun v30 hf => ?_)
      refine r_icmp_ge C (tgt := 48) dX0_flatten_31 (by decide) hf (fun hf => ?_) (fun hf => ?_)
      · exact (w_X0_flatten_48 l hinj hZ C out c0 c1 i0 i1 (f_X0_flatten_11 c0 c1 N) ih N) x3 x4 S H locs ls hf hw (lv_sub hl [0, 1, 2, 3] rfl)
      · refine lv_aload_n C.1.1 C.1.2.1 dX0_flatten_34 rfl (lv_at hl 0 rfl) ?_
        refine r_getR (k := 0) C hw (is0_s i0) (is0_l i0) cO0 rfl (by decide) tw1_85 rfl dX0_flatten_35 ?_
        refine lv_iload C.1.1 C.1.2.1 dX0_flatten_38 (lv_at hl 3 rfl) ?_
        refine lv_aload_n C.1.1 C.1.2.1 dX0_flatten_40 rfl (lv_at hl 1 rfl) ?_
        refine lv_iload C.1.1 C.1.2.1 dX0_flatten_41 (lv_at hl 3 rfl) ?_
        refine r_iald C hw (is5_s13 i1) (is5_l13 i1) dX0_flatten_43 hf (fun v43 hf => ?_)
        refine r_iast C hw (is0_s1 i0) (is0_l1 i0) dX0_flatten_44 hf (fun S44 H locs hf hw => ?_)
        refine lv_iinc (v := (x3 + 1)) (lv' := [(3, .int (x3 + 1)), (0, .ref (X.2.2 c0)), (2, .ref (X.2.2 (c1 + 13))), (4, .int x4)]) C.1.1 C.1.2.1 dX0_flatten_45 hl (k := 2) rfl (by rfl) (by decide) rfl (fun ls hl => ?_)
        exact (w_X0_flatten_48 l hinj hZ C out c0 c1 i0 i1 (f_X0_flatten_11 c0 c1 N) ih N) (x3 + 1) x4 S44 H locs ls hf hw (lv_sub hl [1, 2, 0, 3] rfl)
set_option maxRecDepth 100000 in
set_option maxHeartbeats 4000000 in
theorem c_X0_flatten (l : Launch) (X : XT) (hinj : XInj X nC) (hZ : ZOK (Zc X)) (N : Nat) (S : S2) (c0 : Nat) (c1 : Nat) (i0 : Is0 c0) (i1 : Is5 c1) (out : Int32 × S2) (hf : f_X0_flatten N S c0 c1 = some out) : MI l X shC nC (Zc X) yX0_flatten cX0_flatten 5 (some .int) rmX0_flatten [.ref (X.2.2 c0), .ref (X.2.2 c1)] S out := by
  refine met_I (own := RX0) (by decide) rfl hinj hZ (Nat.le_of_ble_eq_true rfl) (fun p e s m args below meth c C ls H locs hw hl => ?_)
  unfold f_X0_flatten at hf
  have hl : lv_has ls 5 [(0, .ref (X.2.2 c0)), (1, .ref (X.2.2 c1))] := hl
  refine lv_aload_n C.1.1 C.1.2.1 dX0_flatten_0 rfl (lv_at hl 1 rfl) ?_
  refine lv_aload_n C.1.1 C.1.2.1 dX0_flatten_1 rfl (lv_at hl 0 rfl) ?_
  refine r_callR (As := [.ref (X.2.2 c0)]) (rest := []) (rm := rmX5_flatLevels) C hw (is5_s i1) (is5_l i1) cO5 tw4_22 tw4_23 tw4_24 tw1_5 tw4_25 hd_X5_flatLevels rfl ⟨⟨rfl, rfl⟩, Nat.le_of_ble_eq_true rfl, Nat.le_of_ble_eq_true rfl⟩ hl.1 rfl (Nat.le_of_ble_eq_true rfl) dX0_flatten_2 hf (fun o ho => c_X5_flatLevels l X hinj hZ N S c1 c0 i1 i0 o ho) (fun S2 H locs hf hw => ?_)
  refine lv_astore_n (lv' := [(2, .ref (X.2.2 (c1 + 13))), (0, .ref (X.2.2 c0)), (1, .ref (X.2.2 c1))]) C.1.1 C.1.2.1 dX0_flatten_5 rfl hl (by decide) rfl (fun ls hl => ?_)
  refine lv_iconst (v := 0) C.1.1 C.1.2.1 dX0_flatten_6 (by decide) ?_
  refine lv_istore_n (lv' := [(3, .int 0), (2, .ref (X.2.2 (c1 + 13))), (0, .ref (X.2.2 c0)), (1, .ref (X.2.2 c1))]) C.1.1 C.1.2.1 dX0_flatten_7 rfl hl (by decide) rfl (fun ls hl => ?_)
  refine lv_iconst (v := 0) C.1.1 C.1.2.1 dX0_flatten_8 (by decide) ?_
  refine lv_istore (lv' := [(4, .int 0), (3, .int 0), (2, .ref (X.2.2 (c1 + 13))), (0, .ref (X.2.2 c0)), (1, .ref (X.2.2 c1))]) C.1.1 C.1.2.1 dX0_flatten_9 hl (by decide) rfl (fun ls hl => ?_)
  exact (w_X0_flatten_11 l hinj hZ C out c0 c1 i0 i1 N) 0 0 S2 H locs ls hf hw (lv_sub hl [3, 2, 1, 0] rfl)
def f_X0_undergo_67 (c0 : Nat) (c1 : Nat) (N : Nat) (y0 : Int32) (S : S2) : Option (Int32 × S2) := bI (f_X0_blend N S c0 y0) fun v67 S67 => rI v67 S67
def f_X0_undergo (N : Nat) (S : S2) (c0 : Nat) (a1 : Int32) (a2 : Int32) (a3 : Int32) (c1 : Nat) : Option (Int32 × S2) := (if a1 = 0 then (if a1 = 1 then (f_X0_undergo_67 c0 c1 N) 1 S else (f_X0_undergo_67 c0 c1 N) 0 S) else (if a1 = 1 then (if a1 = 1 then (f_X0_undergo_67 c0 c1 N) 1 S else (f_X0_undergo_67 c0 c1 N) 0 S) else (if a1 = 2 then bI (f_X0_flatten N S c0 c1) fun v74 S74 => rI v74 S74 else (if a1 = 3 then bI (f_X0_reverse N S c0) fun v79 S79 => rI v79 S79 else (if a1 = 4 then bI (f_X0_cap N S c0 a2) fun v85 S85 => rI v85 S85 else (if a1 = 5 then bI (f_X0_raise N S c0 a2) fun v91 S91 => rI v91 S91 else (if a1 = 6 then bI (f_X0_stretch N S c0 a2 a3) fun v98 S98 => rI v98 S98 else (if a1 = 7 then bI (f_X0_put N S c0 a2 a3) fun v105 S105 => rI v105 S105 else (if a1 = 8 then bI (f_X0_hush N S c0 a2) fun v111 S111 => rI v111 S111 else (if a1 = 9 then bI (f_X0_keepOnly N S c0 a2 a3) fun v118 S118 => rI v118 S118 else rI (-1) S))))))))))
abbrev rmX0_undergo : Room := { frames := 3, cells := 0, slots := 0, locals := 76 }
theorem hd_X0_undergo : yX0_undergo.cls ≠ "java/lang/invoke/MethodHandle" ∧ yX0_undergo.cls ≠ "java/lang/invoke/VarHandle" ∧ (parseMethodDescriptor yX0_undergo.desc).map (fun d => d.parameters.length) = some 4 := by decide +kernel
set_option maxRecDepth 100000 in
set_option maxHeartbeats 4000000 in
theorem w_X0_undergo_67 {p : Program} (l : Launch) {e : Env} {s : State} {m : MethodId} {args : Array Value} {below : List Frame} {meth : Method} {c : Code} {X : XT} (hinj : XInj X nC) (hZ : ZOK (Zc X)) (C : CX p s m args meth c cX0_undergo 5 RX0 (some .int) X nC (Zc X)) (out : Int32 × S2) (c0 : Nat) (c1 : Nat) (i0 : Is0 c0) (i1 : Is5 c1) : ∀ (N : Nat), ∀ (y0 : Int32) (S : S2) (H : Heap) (locs : List Loc) (ls : Array Slot), f_X0_undergo_67 c0 c1 N y0 S = some out → WH X shC nC s S H locs → lv_has ls 5 [] → W p l e rmX0_undergo s m args below meth c H locs 0 0 (QI X shC nC s args below out) (F0 m 67 ls [.int y0, .ref (X.2.2 c0)]) := by
  intro N y0 S H locs ls hf hw hl
  unfold f_X0_undergo_67 at hf
  refine r_callI (As := [.int y0]) (rest := []) (rm := rmX0_blend) C hw (is0_s i0) (is0_l i0) cO0 tw4_10 tw4_12 tp_28 tw1_4 tw4_13 hd_X0_blend rfl ⟨⟨rfl, rfl⟩, Nat.le_of_ble_eq_true rfl, Nat.le_of_ble_eq_true rfl⟩ hl.1 rfl (Nat.le_of_ble_eq_true rfl) dX0_undergo_67 hf (fun o ho => c_X0_blend l X hinj hZ N S c0 y0 i0 o ho) (fun v67 S67 H locs hf hw => ?_)
  exact r_retI C hw dX0_undergo_70 hf
set_option maxRecDepth 100000 in
set_option maxHeartbeats 4000000 in
theorem c_X0_undergo (l : Launch) (X : XT) (hinj : XInj X nC) (hZ : ZOK (Zc X)) (N : Nat) (S : S2) (c0 : Nat) (a1 : Int32) (a2 : Int32) (a3 : Int32) (c1 : Nat) (i0 : Is0 c0) (i1 : Is5 c1) (out : Int32 × S2) (hf : f_X0_undergo N S c0 a1 a2 a3 c1 = some out) : MI l X shC nC (Zc X) yX0_undergo cX0_undergo 5 (some .int) rmX0_undergo [.ref (X.2.2 c0), .int a1, .int a2, .int a3, .ref (X.2.2 c1)] S out := by
  refine met_I (own := RX0) (by decide) rfl hinj hZ (Nat.le_of_ble_eq_true rfl) (fun p e s m args below meth c C ls H locs hw hl => ?_)
  unfold f_X0_undergo at hf
  have hl : lv_has ls 5 [(0, .ref (X.2.2 c0)), (1, .int a1), (2, .int a2), (3, .int a3), (4, .ref (X.2.2 c1))] := hl
  refine lv_iload_n C.1.1 C.1.2.1 dX0_undergo_0 rfl (lv_at hl 1 rfl) ?_
  rcases ite_some hf with ⟨hc1_0, hf⟩ | ⟨hc1_0, hf⟩
  · refine lv_tableIn (tgt := 56) C.1.1 C.1.2.1 dX0_undergo_1 (by rw [hc1_0]; decide) (by rw [hc1_0]; decide) (by rw [hc1_0]; rfl) (by decide) ?_
    refine lv_aload_n C.1.1 C.1.2.1 dX0_undergo_56 rfl (lv_at hl 0 rfl) ?_
    refine lv_iload_n C.1.1 C.1.2.1 dX0_undergo_57 rfl (lv_at hl 1 rfl) ?_
    refine lv_iconst (v := 1) C.1.1 C.1.2.1 dX0_undergo_58 (by decide) ?_
    refine r_icmp_ne C (tgt := 66) dX0_undergo_59 (by decide) hf (fun hf => ?_) (fun hf => ?_)
    · refine lv_iconst (v := 0) C.1.1 C.1.2.1 dX0_undergo_66 (by decide) ?_
      exact (w_X0_undergo_67 l hinj hZ C out c0 c1 i0 i1 N) 0 S H locs ls hf hw (lv_sub hl [] rfl)
    · refine lv_iconst (v := 1) C.1.1 C.1.2.1 dX0_undergo_62 (by decide) ?_
      refine lv_goto (tgt := 67) C.1.1 C.1.2.1 dX0_undergo_63 (by decide) ?_
      exact (w_X0_undergo_67 l hinj hZ C out c0 c1 i0 i1 N) 1 S H locs ls hf hw (lv_sub hl [] rfl)
  · skip
    rcases ite_some hf with ⟨hc1_1, hf⟩ | ⟨hc1_1, hf⟩
    · refine lv_tableIn (tgt := 56) C.1.1 C.1.2.1 dX0_undergo_1 (by rw [hc1_1]; decide) (by rw [hc1_1]; decide) (by rw [hc1_1]; rfl) (by decide) ?_
      refine lv_aload_n C.1.1 C.1.2.1 dX0_undergo_56 rfl (lv_at hl 0 rfl) ?_
      refine lv_iload_n C.1.1 C.1.2.1 dX0_undergo_57 rfl (lv_at hl 1 rfl) ?_
      refine lv_iconst (v := 1) C.1.1 C.1.2.1 dX0_undergo_58 (by decide) ?_
      refine r_icmp_ne C (tgt := 66) dX0_undergo_59 (by decide) hf (fun hf => ?_) (fun hf => ?_)
      · refine lv_iconst (v := 0) C.1.1 C.1.2.1 dX0_undergo_66 (by decide) ?_
        exact (w_X0_undergo_67 l hinj hZ C out c0 c1 i0 i1 N) 0 S H locs ls hf hw (lv_sub hl [] rfl)
      · refine lv_iconst (v := 1) C.1.1 C.1.2.1 dX0_undergo_62 (by decide) ?_
        refine lv_goto (tgt := 67) C.1.1 C.1.2.1 dX0_undergo_63 (by decide) ?_
        exact (w_X0_undergo_67 l hinj hZ C out c0 c1 i0 i1 N) 1 S H locs ls hf hw (lv_sub hl [] rfl)
    · skip
      rcases ite_some hf with ⟨hc1_2, hf⟩ | ⟨hc1_2, hf⟩
      · refine lv_tableIn (tgt := 71) C.1.1 C.1.2.1 dX0_undergo_1 (by rw [hc1_2]; decide) (by rw [hc1_2]; decide) (by rw [hc1_2]; rfl) (by decide) ?_
        refine lv_aload_n C.1.1 C.1.2.1 dX0_undergo_71 rfl (lv_at hl 0 rfl) ?_
        refine lv_aload C.1.1 C.1.2.1 dX0_undergo_72 (lv_at hl 4 rfl) ?_
        refine r_callI (As := [.ref (X.2.2 c1)]) (rest := []) (rm := rmX0_flatten) C hw (is0_s i0) (is0_l i0) cO0 tw4_18 tw4_20 tp_29 tw1_4 tw4_21 hd_X0_flatten rfl ⟨⟨rfl, rfl⟩, Nat.le_of_ble_eq_true rfl, Nat.le_of_ble_eq_true rfl⟩ hl.1 rfl (Nat.le_of_ble_eq_true rfl) dX0_undergo_74 hf (fun o ho => c_X0_flatten l X hinj hZ N S c0 c1 i0 i1 o ho) (fun v74 S74 H locs hf hw => ?_)
        exact r_retI C hw dX0_undergo_77 hf
      · skip
        rcases ite_some hf with ⟨hc1_3, hf⟩ | ⟨hc1_3, hf⟩
        · refine lv_tableIn (tgt := 78) C.1.1 C.1.2.1 dX0_undergo_1 (by rw [hc1_3]; decide) (by rw [hc1_3]; decide) (by rw [hc1_3]; rfl) (by decide) ?_
          refine lv_aload_n C.1.1 C.1.2.1 dX0_undergo_78 rfl (lv_at hl 0 rfl) ?_
          refine r_callI (As := []) (rest := []) (rm := rmX0_reverse) C hw (is0_s i0) (is0_l i0) cO0 tw4_27 tw4_29 tp_30 tw1_4 tw4_30 hd_X0_reverse rfl ⟨⟨rfl, rfl⟩, Nat.le_of_ble_eq_true rfl, Nat.le_of_ble_eq_true rfl⟩ hl.1 rfl (Nat.le_of_ble_eq_true rfl) dX0_undergo_79 hf (fun o ho => c_X0_reverse l X hinj hZ N S c0 i0 o ho) (fun v79 S79 H locs hf hw => ?_)
          exact r_retI C hw dX0_undergo_82 hf
        · skip
          rcases ite_some hf with ⟨hc1_4, hf⟩ | ⟨hc1_4, hf⟩
          · refine lv_tableIn (tgt := 83) C.1.1 C.1.2.1 dX0_undergo_1 (by rw [hc1_4]; decide) (by rw [hc1_4]; decide) (by rw [hc1_4]; rfl) (by decide) ?_
            refine lv_aload_n C.1.1 C.1.2.1 dX0_undergo_83 rfl (lv_at hl 0 rfl) ?_
            refine lv_iload_n C.1.1 C.1.2.1 dX0_undergo_84 rfl (lv_at hl 2 rfl) ?_
            refine r_callI (As := [.int a2]) (rest := []) (rm := rmX0_cap) C hw (is0_s i0) (is0_l i0) cO0 tw4_31 tw4_33 tp_31 tw1_4 tw4_34 hd_X0_cap rfl ⟨⟨rfl, rfl⟩, Nat.le_of_ble_eq_true rfl, Nat.le_of_ble_eq_true rfl⟩ hl.1 rfl (Nat.le_of_ble_eq_true rfl) dX0_undergo_85 hf (fun o ho => c_X0_cap l X hinj hZ N S c0 a2 i0 o ho) (fun v85 S85 H locs hf hw => ?_)
            exact r_retI C hw dX0_undergo_88 hf
          · skip
            rcases ite_some hf with ⟨hc1_5, hf⟩ | ⟨hc1_5, hf⟩
            · refine lv_tableIn (tgt := 89) C.1.1 C.1.2.1 dX0_undergo_1 (by rw [hc1_5]; decide) (by rw [hc1_5]; decide) (by rw [hc1_5]; rfl) (by decide) ?_
              refine lv_aload_n C.1.1 C.1.2.1 dX0_undergo_89 rfl (lv_at hl 0 rfl) ?_
              refine lv_iload_n C.1.1 C.1.2.1 dX0_undergo_90 rfl (lv_at hl 2 rfl) ?_
              refine r_callI (As := [.int a2]) (rest := []) (rm := rmX0_raise) C hw (is0_s i0) (is0_l i0) cO0 tw4_35 tw4_37 tp_32 tw1_4 tw4_38 hd_X0_raise rfl ⟨⟨rfl, rfl⟩, Nat.le_of_ble_eq_true rfl, Nat.le_of_ble_eq_true rfl⟩ hl.1 rfl (Nat.le_of_ble_eq_true rfl) dX0_undergo_91 hf (fun o ho => c_X0_raise l X hinj hZ N S c0 a2 i0 o ho) (fun v91 S91 H locs hf hw => ?_)
              exact r_retI C hw dX0_undergo_94 hf
            · skip
              rcases ite_some hf with ⟨hc1_6, hf⟩ | ⟨hc1_6, hf⟩
              · refine lv_tableIn (tgt := 95) C.1.1 C.1.2.1 dX0_undergo_1 (by rw [hc1_6]; decide) (by rw [hc1_6]; decide) (by rw [hc1_6]; rfl) (by decide) ?_
                refine lv_aload_n C.1.1 C.1.2.1 dX0_undergo_95 rfl (lv_at hl 0 rfl) ?_
                refine lv_iload_n C.1.1 C.1.2.1 dX0_undergo_96 rfl (lv_at hl 2 rfl) ?_
                refine lv_iload_n C.1.1 C.1.2.1 dX0_undergo_97 rfl (lv_at hl 3 rfl) ?_
                refine r_callI (As := [.int a2, .int a3]) (rest := []) (rm := rmX0_stretch) C hw (is0_s i0) (is0_l i0) cO0 tw4_40 tw4_42 tp_33 tw1_4 tw4_43 hd_X0_stretch rfl ⟨⟨rfl, rfl⟩, Nat.le_of_ble_eq_true rfl, Nat.le_of_ble_eq_true rfl⟩ hl.1 rfl (Nat.le_of_ble_eq_true rfl) dX0_undergo_98 hf (fun o ho => c_X0_stretch l X hinj hZ N S c0 a2 a3 i0 o ho) (fun v98 S98 H locs hf hw => ?_)
                exact r_retI C hw dX0_undergo_101 hf
              · skip
                rcases ite_some hf with ⟨hc1_7, hf⟩ | ⟨hc1_7, hf⟩
                · refine lv_tableIn (tgt := 102) C.1.1 C.1.2.1 dX0_undergo_1 (by rw [hc1_7]; decide) (by rw [hc1_7]; decide) (by rw [hc1_7]; rfl) (by decide) ?_
                  refine lv_aload_n C.1.1 C.1.2.1 dX0_undergo_102 rfl (lv_at hl 0 rfl) ?_
                  refine lv_iload_n C.1.1 C.1.2.1 dX0_undergo_103 rfl (lv_at hl 2 rfl) ?_
                  refine lv_iload_n C.1.1 C.1.2.1 dX0_undergo_104 rfl (lv_at hl 3 rfl) ?_
                  refine r_callI (As := [.int a2, .int a3]) (rest := []) (rm := rmX0_put) C hw (is0_s i0) (is0_l i0) cO0 tw4_48 tw4_50 tp_34 tw1_4 tw4_51 hd_X0_put rfl ⟨⟨rfl, rfl⟩, Nat.le_of_ble_eq_true rfl, Nat.le_of_ble_eq_true rfl⟩ hl.1 rfl (Nat.le_of_ble_eq_true rfl) dX0_undergo_105 hf (fun o ho => c_X0_put l X hinj hZ N S c0 a2 a3 i0 o ho) (fun v105 S105 H locs hf hw => ?_)
                  exact r_retI C hw dX0_undergo_108 hf
                · skip
                  rcases ite_some hf with ⟨hc1_8, hf⟩ | ⟨hc1_8, hf⟩
                  · refine lv_tableIn (tgt := 109) C.1.1 C.1.2.1 dX0_undergo_1 (by rw [hc1_8]; decide) (by rw [hc1_8]; decide) (by rw [hc1_8]; rfl) (by decide) ?_
                    refine lv_aload_n C.1.1 C.1.2.1 dX0_undergo_109 rfl (lv_at hl 0 rfl) ?_
                    refine lv_iload_n C.1.1 C.1.2.1 dX0_undergo_110 rfl (lv_at hl 2 rfl) ?_
                    refine r_callI (As := [.int a2]) (rest := []) (rm := rmX0_hush) C hw (is0_s i0) (is0_l i0) cO0 tw4_52 tw4_54 tp_35 tw1_4 tw4_55 hd_X0_hush rfl ⟨⟨rfl, rfl⟩, Nat.le_of_ble_eq_true rfl, Nat.le_of_ble_eq_true rfl⟩ hl.1 rfl (Nat.le_of_ble_eq_true rfl) dX0_undergo_111 hf (fun o ho => c_X0_hush l X hinj hZ N S c0 a2 i0 o ho) (fun v111 S111 H locs hf hw => ?_)
                    exact r_retI C hw dX0_undergo_114 hf
                  · skip
                    rcases ite_some hf with ⟨hc1_9, hf⟩ | ⟨hc1_9, hf⟩
                    · refine lv_tableIn (tgt := 115) C.1.1 C.1.2.1 dX0_undergo_1 (by rw [hc1_9]; decide) (by rw [hc1_9]; decide) (by rw [hc1_9]; rfl) (by decide) ?_
                      refine lv_aload_n C.1.1 C.1.2.1 dX0_undergo_115 rfl (lv_at hl 0 rfl) ?_
                      refine lv_iload_n C.1.1 C.1.2.1 dX0_undergo_116 rfl (lv_at hl 2 rfl) ?_
                      refine lv_iload_n C.1.1 C.1.2.1 dX0_undergo_117 rfl (lv_at hl 3 rfl) ?_
                      refine r_callI (As := [.int a2, .int a3]) (rest := []) (rm := rmX0_keepOnly) C hw (is0_s i0) (is0_l i0) cO0 tw4_56 tw4_58 tp_36 tw1_4 tw4_59 hd_X0_keepOnly rfl ⟨⟨rfl, rfl⟩, Nat.le_of_ble_eq_true rfl, Nat.le_of_ble_eq_true rfl⟩ hl.1 rfl (Nat.le_of_ble_eq_true rfl) dX0_undergo_118 hf (fun o ho => c_X0_keepOnly l X hinj hZ N S c0 a2 a3 i0 o ho) (fun v118 S118 H locs hf hw => ?_)
                      exact r_retI C hw dX0_undergo_121 hf
                    · skip
                      refine lv_tableOut (tgt := 122) C.1.1 C.1.2.1 dX0_undergo_1 (by have h0 := sw_ne hc1_0 (z := 0) rfl; have h1 := sw_ne hc1_1 (z := 1) rfl; have h2 := sw_ne hc1_2 (z := 2) rfl; have h3 := sw_ne hc1_3 (z := 3) rfl; have h4 := sw_ne hc1_4 (z := 4) rfl; have h5 := sw_ne hc1_5 (z := 5) rfl; have h6 := sw_ne hc1_6 (z := 6) rfl; have h7 := sw_ne hc1_7 (z := 7) rfl; have h8 := sw_ne hc1_8 (z := 8) rfl; have h9 := sw_ne hc1_9 (z := 9) rfl; omega) (by decide) ?_
                      refine lv_iconst (v := (-1)) C.1.1 C.1.2.1 dX0_undergo_122 (by decide) ?_
                      exact r_retI C hw dX0_undergo_123 hf
