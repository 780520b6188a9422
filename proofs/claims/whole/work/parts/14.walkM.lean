def f_X11_in (N : Nat) (S : S2) (a0 : Int) (a1 : Int) (a2 : Int) : Option (Int × S2) := cI a0 a1 (if a0 < a1 then rZ 0 S else cI a0 a2 (if a2 < a0 then rZ 0 S else rZ 1 S))
abbrev rmX11_in : Room := { frames := 0, cells := 0, slots := 0, locals := 0 }
theorem hd_X11_in : yX11_in.cls ≠ "java/lang/invoke/MethodHandle" ∧ yX11_in.cls ≠ "java/lang/invoke/VarHandle" ∧ (parseMethodDescriptor yX11_in.desc).map (fun d => d.parameters.length) = some 3 := by decide +kernel
set_option maxRecDepth 100000 in
set_option maxHeartbeats 4000000 in
theorem c_X11_in (l : Launch) (X : XT) (hinj : XInj X nM) (hZ : ZOK (Zm X)) (N : Nat) (S : S2) (a0 : Int) (a1 : Int) (a2 : Int) (out : Int × S2) (hf : f_X11_in N S a0 a1 a2 = some out) : MI l X shM nM (Zm X) yX11_in cX11_in 3 (some .boolean) rmX11_in [.int (iz a0), .int (iz a1), .int (iz a2)] S out := by
  refine met_I (own := RX11) (by decide) rfl hinj hZ (Nat.le_of_ble_eq_true rfl) (fun p e s m args below meth c C ls H locs hw hl => ?_)
  unfold f_X11_in at hf
  have hl : lv_has ls 3 [(0, .int (iz a0)), (1, .int (iz a1)), (2, .int (iz a2))] := hl
  refine lv_iload_n C.1.1 C.1.2.1 dX11_in_0 rfl (lv_at hl 0 rfl) ?_
  refine lv_iload_n C.1.1 C.1.2.1 dX11_in_1 rfl (lv_at hl 1 rfl) ?_
  refine r_icmp_lt C (tgt := 14) dX11_in_2 (by decide) hf (fun hf => ?_) (fun hf => ?_)
  · refine r_iconst (v := 0) C dX11_in_14 ?_
    exact r_retZ C hw dX11_in_15 hf
  · refine lv_iload_n C.1.1 C.1.2.1 dX11_in_5 rfl (lv_at hl 0 rfl) ?_
    refine lv_iload_n C.1.1 C.1.2.1 dX11_in_6 rfl (lv_at hl 2 rfl) ?_
    refine r_icmp_gt C (tgt := 14) dX11_in_7 (by decide) hf (fun hf => ?_) (fun hf => ?_)
    · refine r_iconst (v := 0) C dX11_in_14 ?_
      exact r_retZ C hw dX11_in_15 hf
    · refine r_iconst (v := 1) C dX11_in_10 ?_
      refine lv_goto (tgt := 15) C.1.1 C.1.2.1 dX11_in_11 (by decide) ?_
      exact r_retZ C hw dX11_in_15 hf
def f_X11_has (N : Nat) (S : S2) (a0 : Int) (a1 : Int) : Option (Int × S2) := cI (bz (iz (bz (iz a0 >>> (iz a1 &&& 31))) &&& iz 1)) 1 (if (bz (iz (bz (iz a0 >>> (iz a1 &&& 31))) &&& iz 1)) = 1 then rZ 1 S else rZ 0 S)
abbrev rmX11_has : Room := { frames := 0, cells := 0, slots := 0, locals := 0 }
theorem hd_X11_has : yX11_has.cls ≠ "java/lang/invoke/MethodHandle" ∧ yX11_has.cls ≠ "java/lang/invoke/VarHandle" ∧ (parseMethodDescriptor yX11_has.desc).map (fun d => d.parameters.length) = some 2 := by decide +kernel
set_option maxRecDepth 100000 in
set_option maxHeartbeats 4000000 in
theorem c_X11_has (l : Launch) (X : XT) (hinj : XInj X nM) (hZ : ZOK (Zm X)) (N : Nat) (S : S2) (a0 : Int) (a1 : Int) (out : Int × S2) (hf : f_X11_has N S a0 a1 = some out) : MI l X shM nM (Zm X) yX11_has cX11_has 2 (some .boolean) rmX11_has [.int (iz a0), .int (iz a1)] S out := by
  refine met_I (own := RX11) (by decide) rfl hinj hZ (Nat.le_of_ble_eq_true rfl) (fun p e s m args below meth c C ls H locs hw hl => ?_)
  unfold f_X11_has at hf
  have hl : lv_has ls 2 [(0, .int (iz a0)), (1, .int (iz a1))] := hl
  refine lv_iload_n C.1.1 C.1.2.1 dX11_has_0 rfl (lv_at hl 0 rfl) ?_
  refine lv_iload_n C.1.1 C.1.2.1 dX11_has_1 rfl (lv_at hl 1 rfl) ?_
  refine r_ishr C dX11_has_2 ?_
  refine r_iconst (v := 1) C dX11_has_3 ?_
  refine r_iand C dX11_has_4 ?_
  refine r_iconst (v := 1) C dX11_has_5 ?_
  refine r_icmp_ne C (tgt := 13) dX11_has_6 (by decide) hf (fun hf => ?_) (fun hf => ?_)
  · refine r_iconst (v := 0) C dX11_has_13 ?_
    exact r_retZ C hw dX11_has_14 hf
  · refine r_iconst (v := 1) C dX11_has_9 ?_
    refine lv_goto (tgt := 14) C.1.1 C.1.2.1 dX11_has_10 (by decide) ?_
    exact r_retZ C hw dX11_has_14 hf
def f_X11_apart (N : Nat) (S : S2) (a0 : Int) (a1 : Int) : Option (Int × S2) := cI a0 a1 (if a0 ≤ a1 then rI (a1 - a0) S else rI (a0 - a1) S)
abbrev rmX11_apart : Room := { frames := 0, cells := 0, slots := 0, locals := 0 }
theorem hd_X11_apart : yX11_apart.cls ≠ "java/lang/invoke/MethodHandle" ∧ yX11_apart.cls ≠ "java/lang/invoke/VarHandle" ∧ (parseMethodDescriptor yX11_apart.desc).map (fun d => d.parameters.length) = some 2 := by decide +kernel
set_option maxRecDepth 100000 in
set_option maxHeartbeats 4000000 in
theorem c_X11_apart (l : Launch) (X : XT) (hinj : XInj X nM) (hZ : ZOK (Zm X)) (N : Nat) (S : S2) (a0 : Int) (a1 : Int) (out : Int × S2) (hf : f_X11_apart N S a0 a1 = some out) : MI l X shM nM (Zm X) yX11_apart cX11_apart 2 (some .int) rmX11_apart [.int (iz a0), .int (iz a1)] S out := by
  refine met_I (own := RX11) (by decide) rfl hinj hZ (Nat.le_of_ble_eq_true rfl) (fun p e s m args below meth c C ls H locs hw hl => ?_)
  unfold f_X11_apart at hf
  have hl : lv_has ls 2 [(0, .int (iz a0)), (1, .int (iz a1))] := hl
  refine lv_iload_n C.1.1 C.1.2.1 dX11_apart_0 rfl (lv_at hl 0 rfl) ?_
  refine lv_iload_n C.1.1 C.1.2.1 dX11_apart_1 rfl (lv_at hl 1 rfl) ?_
  refine r_icmp_le C (tgt := 11) dX11_apart_2 (by decide) hf (fun hf => ?_) (fun hf => ?_)
  · refine lv_iload_n C.1.1 C.1.2.1 dX11_apart_11 rfl (lv_at hl 1 rfl) ?_
    refine lv_iload_n C.1.1 C.1.2.1 dX11_apart_12 rfl (lv_at hl 0 rfl) ?_
    refine r_isub C dX11_apart_13 ?_
    exact r_retI C hw dX11_apart_14 hf
  · refine lv_iload_n C.1.1 C.1.2.1 dX11_apart_5 rfl (lv_at hl 0 rfl) ?_
    refine lv_iload_n C.1.1 C.1.2.1 dX11_apart_6 rfl (lv_at hl 1 rfl) ?_
    refine r_isub C dX11_apart_7 ?_
    refine lv_goto (tgt := 14) C.1.1 C.1.2.1 dX11_apart_8 (by decide) ?_
    exact r_retI C hw dX11_apart_14 hf
def f_X11_thrown (N : Nat) (S : S2) : Option (Int × S2) := gI S 0 0 fun v1 => rI v1 S
abbrev rmX11_thrown : Room := { frames := 0, cells := 0, slots := 0, locals := 0 }
theorem hd_X11_thrown : yX11_thrown.cls ≠ "java/lang/invoke/MethodHandle" ∧ yX11_thrown.cls ≠ "java/lang/invoke/VarHandle" ∧ (parseMethodDescriptor yX11_thrown.desc).map (fun d => d.parameters.length) = some 0 := by decide +kernel
set_option maxRecDepth 100000 in
set_option maxHeartbeats 4000000 in
theorem c_X11_thrown (l : Launch) (X : XT) (hinj : XInj X nM) (hZ : ZOK (Zm X)) (N : Nat) (S : S2) (out : Int × S2) (hf : f_X11_thrown N S = some out) : MI l X shM nM (Zm X) yX11_thrown cX11_thrown 1 (some .int) rmX11_thrown [.ref (X.2.2 0)] S out := by
  refine met_I (own := RX11) (by decide) rfl hinj hZ (Nat.le_of_ble_eq_true rfl) (fun p e s m args below meth c C ls H locs hw hl => ?_)
  unfold f_X11_thrown at hf
  have hl : lv_has ls 1 [(0, .ref (X.2.2 0))] := hl
  refine lv_aload_n C.1.1 C.1.2.1 dX11_thrown_0 rfl (lv_at hl 0 rfl) ?_
  refine r_getI (k := 0) C hw shM_0 ltM_0 cO11 rfl (by decide) tw5_144 rfl dX11_thrown_1 hf (fun v1 hf => ?_)
  exact r_retI C hw dX11_thrown_4 hf
def f_X11_byteOf_45 (N : Nat) (x5 : Int) (y0 : Int) (S : S2) : Option (Int × S2) := rmI x5 4 fun v56 => rI (bz (iz (bz (iz y0 >>> (iz (24 - (8 * v56)) &&& 31))) &&& iz 255)) S
def f_X11_byteOf (N : Nat) (S : S2) (a0 : Int) (a1 : Int) (a2 : Int) (a3 : Int) (a4 : Int) (a5 : Int) : Option (Int × S2) := cI a5 4 (if 4 ≤ a5 then cI a5 8 (if 8 ≤ a5 then cI a5 12 (if 12 ≤ a5 then cI a5 16 (if 16 ≤ a5 then (f_X11_byteOf_45 N) a5 a4 S else (f_X11_byteOf_45 N) a5 a3 S) else (f_X11_byteOf_45 N) a5 a2 S) else (f_X11_byteOf_45 N) a5 a1 S) else (f_X11_byteOf_45 N) a5 a0 S)
abbrev rmX11_byteOf : Room := { frames := 0, cells := 0, slots := 0, locals := 0 }
theorem hd_X11_byteOf : yX11_byteOf.cls ≠ "java/lang/invoke/MethodHandle" ∧ yX11_byteOf.cls ≠ "java/lang/invoke/VarHandle" ∧ (parseMethodDescriptor yX11_byteOf.desc).map (fun d => d.parameters.length) = some 6 := by decide +kernel
set_option maxRecDepth 100000 in
set_option maxHeartbeats 4000000 in
theorem w_X11_byteOf_45 {p : Program} (l : Launch) {e : Env} {s : State} {m : MethodId} {args : Array Value} {below : List Frame} {meth : Method} {c : Code} {X : XT} (hinj : XInj X nM) (hZ : ZOK (Zm X)) (C : CX p s m args meth c cX11_byteOf 7 RX11 (some .int) X nM (Zm X)) (out : Int × S2) : ∀ (N : Nat), ∀ (x5 : Int) (y0 : Int) (S : S2) (H : Heap) (locs : List Loc) (ls : Array Slot), f_X11_byteOf_45 N x5 y0 S = some out → WH X shM nM s S H locs → lv_has ls 7 [(5, .int (iz x5))] → W p l e rmX11_byteOf s m args below meth c H locs 0 0 (QI X shM nM s args below out) (F0 m 45 ls [.int (iz y0)]) := by
  intro N x5 y0 S H locs ls hf hw hl
  unfold f_X11_byteOf_45 at hf
  refine lv_istore (lv' := [(6, .int (iz y0)), (5, .int (iz x5))]) C.1.1 C.1.2.1 dX11_byteOf_45 hl (by decide) rfl (fun ls hl => ?_)
  refine lv_iload C.1.1 C.1.2.1 dX11_byteOf_47 (lv_at hl 0 rfl) ?_
  refine r_bipush (v := 24) C dX11_byteOf_49 (by decide) ?_
  refine r_bipush (v := 8) C dX11_byteOf_51 (by decide) ?_
  refine lv_iload C.1.1 C.1.2.1 dX11_byteOf_53 (lv_at hl 1 rfl) ?_
  refine r_iconst (v := 4) C dX11_byteOf_55 ?_
  refine r_irem C dX11_byteOf_56 hf (fun v56 hf => ?_)
  refine r_imul C dX11_byteOf_57 ?_
  refine r_isub C dX11_byteOf_58 ?_
  refine r_ishr C dX11_byteOf_59 ?_
  refine r_sipush (v := 255) C dX11_byteOf_60 (by decide) ?_
  refine r_iand C dX11_byteOf_63 ?_
  exact r_retI C hw dX11_byteOf_64 hf
set_option maxRecDepth 100000 in
set_option maxHeartbeats 4000000 in
theorem c_X11_byteOf (l : Launch) (X : XT) (hinj : XInj X nM) (hZ : ZOK (Zm X)) (N : Nat) (S : S2) (a0 : Int) (a1 : Int) (a2 : Int) (a3 : Int) (a4 : Int) (a5 : Int) (out : Int × S2) (hf : f_X11_byteOf N S a0 a1 a2 a3 a4 a5 = some out) : MI l X shM nM (Zm X) yX11_byteOf cX11_byteOf 7 (some .int) rmX11_byteOf [.int (iz a0), .int (iz a1), .int (iz a2), .int (iz a3), .int (iz a4), .int (iz a5)] S out := by
  refine met_I (own := RX11) (by decide) rfl hinj hZ (Nat.le_of_ble_eq_true rfl) (fun p e s m args below meth c C ls H locs hw hl => ?_)
  unfold f_X11_byteOf at hf
  have hl : lv_has ls 7 [(0, .int (iz a0)), (1, .int (iz a1)), (2, .int (iz a2)), (3, .int (iz a3)), (4, .int (iz a4)), (5, .int (iz a5))] := hl
  refine lv_iload C.1.1 C.1.2.1 dX11_byteOf_0 (lv_at hl 5 rfl) ?_
  refine r_iconst (v := 4) C dX11_byteOf_2 ?_
  refine r_icmp_ge C (tgt := 10) dX11_byteOf_3 (by decide) hf (fun hf => ?_) (fun hf => ?_)
  · refine lv_iload C.1.1 C.1.2.1 dX11_byteOf_10 (lv_at hl 5 rfl) ?_
    refine r_bipush (v := 8) C dX11_byteOf_12 (by decide) ?_
    refine r_icmp_ge C (tgt := 21) dX11_byteOf_14 (by decide) hf (fun hf => ?_) (fun hf => ?_)
    · refine lv_iload C.1.1 C.1.2.1 dX11_byteOf_21 (lv_at hl 5 rfl) ?_
      refine r_bipush (v := 12) C dX11_byteOf_23 (by decide) ?_
      refine r_icmp_ge C (tgt := 32) dX11_byteOf_25 (by decide) hf (fun hf => ?_) (fun hf => ?_)
      · refine lv_iload C.1.1 C.1.2.1 dX11_byteOf_32 (lv_at hl 5 rfl) ?_
        refine r_bipush (v := 16) C dX11_byteOf_34 (by decide) ?_
        refine r_icmp_ge C (tgt := 43) dX11_byteOf_36 (by decide) hf (fun hf => ?_) (fun hf => ?_)
        · refine lv_iload C.1.1 C.1.2.1 dX11_byteOf_43 (lv_at hl 4 rfl) ?_
          exact (w_X11_byteOf_45 l hinj hZ C out N) a5 a4 S H locs ls hf hw (lv_sub hl [5] rfl)
        · refine lv_iload_n C.1.1 C.1.2.1 dX11_byteOf_39 rfl (lv_at hl 3 rfl) ?_
          refine lv_goto (tgt := 45) C.1.1 C.1.2.1 dX11_byteOf_40 (by decide) ?_
          exact (w_X11_byteOf_45 l hinj hZ C out N) a5 a3 S H locs ls hf hw (lv_sub hl [5] rfl)
      · refine lv_iload_n C.1.1 C.1.2.1 dX11_byteOf_28 rfl (lv_at hl 2 rfl) ?_
        refine lv_goto (tgt := 45) C.1.1 C.1.2.1 dX11_byteOf_29 (by decide) ?_
        exact (w_X11_byteOf_45 l hinj hZ C out N) a5 a2 S H locs ls hf hw (lv_sub hl [5] rfl)
    · refine lv_iload_n C.1.1 C.1.2.1 dX11_byteOf_17 rfl (lv_at hl 1 rfl) ?_
      refine lv_goto (tgt := 45) C.1.1 C.1.2.1 dX11_byteOf_18 (by decide) ?_
      exact (w_X11_byteOf_45 l hinj hZ C out N) a5 a1 S H locs ls hf hw (lv_sub hl [5] rfl)
  · refine lv_iload_n C.1.1 C.1.2.1 dX11_byteOf_6 rfl (lv_at hl 0 rfl) ?_
    refine lv_goto (tgt := 45) C.1.1 C.1.2.1 dX11_byteOf_7 (by decide) ?_
    exact (w_X11_byteOf_45 l hinj hZ C out N) a5 a0 S H locs ls hf hw (lv_sub hl [5] rfl)
def f_X11_feed_115 (N : Nat) (S : S2) : Option (Int × S2) := gI S 0 2 fun v116 => rI v116 S
def f_X11_feed_109 (k62 : Int → Int → Int → Int → Int → Int → S2 → Option (Int × S2)) (N : Nat) (x1 : Int) (x2 : Int) (x3 : Int) (x4 : Int) (x5 : Int) (x7 : Int) (S : S2) : Option (Int × S2) := k62 x1 x2 x3 x4 x5 (x7 + 1) S
def f_X11_feed_62 (k115 : S2 → Option (Int × S2)) : Nat → Int → Int → Int → Int → Int → Int → S2 → Option (Int × S2)
  | 0, _, _, _, _, _, _, _ => none
  | N + 1, x1, x2, x3, x4, x5, x7, S => cI x7 20 (if 20 ≤ x7 then k115 S else bI (f_X11_byteOf N S x1 x2 x3 x4 x5 x7) fun v78 S78 => cI v78 0 (if v78 = 0 then (f_X11_feed_109 (f_X11_feed_62 k115 N) N) x1 x2 x3 x4 x5 x7 S78 else gI S78 0 2 fun v93 => sI S78 1 400 v93 v78 fun S98 => gI S98 0 2 fun v101 => uI S98 0 2 (v101 + 1) fun S106 => (f_X11_feed_109 (f_X11_feed_62 k115 N) N) x1 x2 x3 x4 x5 x7 S106))
def f_X11_feed_44 (N : Nat) (x1 : Int) (x2 : Int) (x3 : Int) (x4 : Int) (x5 : Int) (x6 : Int) (S : S2) : Option (Int × S2) := gI S 0 2 fun v45 => cI (v45 + x6) 400 (if (v45 + x6) ≤ 400 then (f_X11_feed_62 (f_X11_feed_115 N) N) x1 x2 x3 x4 x5 0 S else rI (-1) S)
def f_X11_feed_35 (k6 : Int → Int → Int → Int → Int → Int → Int → S2 → Option (Int × S2)) (N : Nat) (x1 : Int) (x2 : Int) (x3 : Int) (x4 : Int) (x5 : Int) (x7 : Int) (y0 : Int) (y1 : Int) (S : S2) : Option (Int × S2) := k6 x1 x2 x3 x4 x5 (y1 + y0) (x7 + 1) S
def f_X11_feed_6 (k44 : Int → Int → Int → Int → Int → Int → S2 → Option (Int × S2)) : Nat → Int → Int → Int → Int → Int → Int → Int → S2 → Option (Int × S2)
  | 0, _, _, _, _, _, _, _, _ => none
  | N + 1, x1, x2, x3, x4, x5, x6, x7, S => cI x7 20 (if 20 ≤ x7 then k44 x1 x2 x3 x4 x5 x6 S else bI (f_X11_byteOf N S x1 x2 x3 x4 x5 x7) fun v24 S24 => cI v24 0 (if v24 = 0 then (f_X11_feed_35 (f_X11_feed_6 k44 N) N) x1 x2 x3 x4 x5 x7 0 x6 S24 else (f_X11_feed_35 (f_X11_feed_6 k44 N) N) x1 x2 x3 x4 x5 x7 1 x6 S24))
def f_X11_feed (N : Nat) (S : S2) (a1 : Int) (a2 : Int) (a3 : Int) (a4 : Int) (a5 : Int) : Option (Int × S2) := (f_X11_feed_6 (f_X11_feed_44 N) N) a1 a2 a3 a4 a5 0 0 S
abbrev rmX11_feed : Room := { frames := 1, cells := 0, slots := 0, locals := 26 }
theorem hd_X11_feed : yX11_feed.cls ≠ "java/lang/invoke/MethodHandle" ∧ yX11_feed.cls ≠ "java/lang/invoke/VarHandle" ∧ (parseMethodDescriptor yX11_feed.desc).map (fun d => d.parameters.length) = some 5 := by decide +kernel
set_option maxRecDepth 100000 in
set_option maxHeartbeats 4000000 in
theorem w_X11_feed_115 {p : Program} (l : Launch) {e : Env} {s : State} {m : MethodId} {args : Array Value} {below : List Frame} {meth : Method} {c : Code} {X : XT} (hinj : XInj X nM) (hZ : ZOK (Zm X)) (C : CX p s m args meth c cX11_feed 9 RX11 (some .int) X nM (Zm X)) (out : Int × S2) : ∀ (N : Nat), ∀ (S : S2) (H : Heap) (locs : List Loc) (ls : Array Slot), f_X11_feed_115 N S = some out → WH X shM nM s S H locs → lv_has ls 9 [(0, .ref (X.2.2 0))] → W p l e rmX11_feed s m args below meth c H locs 0 0 (QI X shM nM s args below out) (F0 m 115 ls []) := by
  intro N S H locs ls hf hw hl
  unfold f_X11_feed_115 at hf
  refine lv_aload_n C.1.1 C.1.2.1 dX11_feed_115 rfl (lv_at hl 0 rfl) ?_
  refine r_getI (k := 2) C hw shM_0 ltM_0 cO11 rfl (by decide) tw5_146 rfl dX11_feed_116 hf (fun v116 hf => ?_)
  exact r_retI C hw dX11_feed_119 hf
set_option maxRecDepth 100000 in
set_option maxHeartbeats 4000000 in
theorem w_X11_feed_109 {p : Program} (l : Launch) {e : Env} {s : State} {m : MethodId} {args : Array Value} {below : List Frame} {meth : Method} {c : Code} {X : XT} (hinj : XInj X nM) (hZ : ZOK (Zm X)) (C : CX p s m args meth c cX11_feed 9 RX11 (some .int) X nM (Zm X)) (out : Int × S2) (k62 : Int → Int → Int → Int → Int → Int → S2 → Option (Int × S2)) (hk62 : ∀ (x1 : Int) (x2 : Int) (x3 : Int) (x4 : Int) (x5 : Int) (x7 : Int) (S : S2) (H : Heap) (locs : List Loc) (ls : Array Slot), k62 x1 x2 x3 x4 x5 x7 S = some out → WH X shM nM s S H locs → lv_has ls 9 [(0, .ref (X.2.2 0)), (1, .int (iz x1)), (2, .int (iz x2)), (3, .int (iz x3)), (4, .int (iz x4)), (5, .int (iz x5)), (7, .int (iz x7))] → W p l e rmX11_feed s m args below meth c H locs 0 0 (QI X shM nM s args below out) (F0 m 62 ls [])) : ∀ (N : Nat), ∀ (x1 : Int) (x2 : Int) (x3 : Int) (x4 : Int) (x5 : Int) (x7 : Int) (S : S2) (H : Heap) (locs : List Loc) (ls : Array Slot), f_X11_feed_109 k62 N x1 x2 x3 x4 x5 x7 S = some out → WH X shM nM s S H locs → lv_has ls 9 [(0, .ref (X.2.2 0)), (1, .int (iz x1)), (2, .int (iz x2)), (3, .int (iz x3)), (4, .int (iz x4)), (5, .int (iz x5)), (7, .int (iz x7))] → W p l e rmX11_feed s m args below meth c H locs 0 0 (QI X shM nM s args below out) (F0 m 109 ls []) := by
  intro N x1 x2 x3 x4 x5 x7 S H locs ls hf hw hl
  unfold f_X11_feed_109 at hf
  refine lv_iinc (v := iz (x7 + 1)) (lv' := [(7, .int (iz (x7 + 1))), (0, .ref (X.2.2 0)), (1, .int (iz x1)), (2, .int (iz x2)), (3, .int (iz x3)), (4, .int (iz x4)), (5, .int (iz x5))]) C.1.1 C.1.2.1 dX11_feed_109 hl (k := 6) rfl (iz_add _ _) (by decide) rfl (fun ls hl => ?_)
  refine lv_goto (tgt := 62) C.1.1 C.1.2.1 dX11_feed_112 (by decide) ?_
  exact hk62 x1 x2 x3 x4 x5 (x7 + 1) S H locs ls hf hw (lv_sub hl [1, 2, 3, 4, 5, 6, 0] rfl)
set_option maxRecDepth 100000 in
set_option maxHeartbeats 4000000 in
theorem w_X11_feed_62 {p : Program} (l : Launch) {e : Env} {s : State} {m : MethodId} {args : Array Value} {below : List Frame} {meth : Method} {c : Code} {X : XT} (hinj : XInj X nM) (hZ : ZOK (Zm X)) (C : CX p s m args meth c cX11_feed 9 RX11 (some .int) X nM (Zm X)) (out : Int × S2) (k115 : S2 → Option (Int × S2)) (hk115 : ∀ (S : S2) (H : Heap) (locs : List Loc) (ls : Array Slot), k115 S = some out → WH X shM nM s S H locs → lv_has ls 9 [(0, .ref (X.2.2 0))] → W p l e rmX11_feed s m args below meth c H locs 0 0 (QI X shM nM s args below out) (F0 m 115 ls [])) : ∀ (N : Nat), ∀ (x1 : Int) (x2 : Int) (x3 : Int) (x4 : Int) (x5 : Int) (x7 : Int) (S : S2) (H : Heap) (locs : List Loc) (ls : Array Slot), f_X11_feed_62 k115 N x1 x2 x3 x4 x5 x7 S = some out → WH X shM nM s S H locs → lv_has ls 9 [(0, .ref (X.2.2 0)), (1, .int (iz x1)), (2, .int (iz x2)), (3, .int (iz x3)), (4, .int (iz x4)), (5, .int (iz x5)), (7, .int (iz x7))] → W p l e rmX11_feed s m args below meth c H locs 0 0 (QI X shM nM s args below out) (F0 m 62 ls []) := by
  intro N
  induction N with
  | zero => intro x1 x2 x3 x4 x5 x7 S H locs ls hf hw hl; cases hf
  | succ N ih =>
    intro x1 x2 x3 x4 x5 x7 S H locs ls hf hw hl
    rw [f_X11_feed_62.eq_2] at hf
    refine lv_iload C.1.1 C.1.2.1 dX11_feed_62 (lv_at hl 6 rfl) ?_
    refine r_bipush (v := 20) C dX11_feed_64 (by decide) ?_
    refine r_icmp_ge C (tgt := 115) dX11_feed_66 (by decide) hf (fun hf => ?_) (fun hf => ?_)
    · exact hk115 S H locs ls hf hw (lv_sub hl [0] rfl)
    · refine lv_iload_n C.1.1 C.1.2.1 dX11_feed_69 rfl (lv_at hl 1 rfl) ?_
      refine lv_iload_n C.1.1 C.1.2.1 dX11_feed_70 rfl (lv_at hl 2 rfl) ?_
      refine lv_iload_n C.1.1 C.1.2.1 dX11_feed_71 rfl (lv_at hl 3 rfl) ?_
      refine lv_iload C.1.1 C.1.2.1 dX11_feed_72 (lv_at hl 4 rfl) ?_
      refine lv_iload C.1.1 C.1.2.1 dX11_feed_74 (lv_at hl 5 rfl) ?_
      refine lv_iload C.1.1 C.1.2.1 dX11_feed_76 (lv_at hl 6 rfl) ?_
      refine r_scallI (As := [.int (iz x1), .int (iz x2), .int (iz x3), .int (iz x4), .int (iz x5), .int (iz x7)]) (rest := []) (rm := rmX11_byteOf) C hw tw6_70 tw6_71 tw1_12 tw6_72 hd_X11_byteOf rfl ⟨⟨rfl, rfl⟩, Nat.le_of_ble_eq_true rfl, Nat.le_of_ble_eq_true rfl⟩ hl.1 rfl (Nat.le_of_ble_eq_true rfl) dX11_feed_78 hf (fun o ho => c_X11_byteOf l X hinj hZ N S x1 x2 x3 x4 x5 x7 o ho) (fun v78 S78 H locs hf hw => ?_)
      refine lv_istore (lv' := [(8, .int (iz v78)), (0, .ref (X.2.2 0)), (1, .int (iz x1)), (2, .int (iz x2)), (3, .int (iz x3)), (4, .int (iz x4)), (5, .int (iz x5)), (7, .int (iz x7))]) C.1.1 C.1.2.1 dX11_feed_81 hl (by decide) rfl (fun ls hl => ?_)
      refine lv_iload C.1.1 C.1.2.1 dX11_feed_83 (lv_at hl 0 rfl) ?_
      refine r_if_eq C (tgt := 109) dX11_feed_85 (by decide) hf (fun hf => ?_) (fun hf => ?_)
      · exact (w_X11_feed_109 l hinj hZ C out (f_X11_feed_62 k115 N) ih N) x1 x2 x3 x4 x5 x7 S78 H locs ls hf hw (lv_sub hl [1, 2, 3, 4, 5, 6, 7] rfl)
      · refine lv_aload_n C.1.1 C.1.2.1 dX11_feed_88 rfl (lv_at hl 1 rfl) ?_
        refine r_getR (k := 1) C hw shM_0 ltM_0 cO11 rfl (by decide) tw5_145 rfl dX11_feed_89 ?_
        refine lv_aload_n C.1.1 C.1.2.1 dX11_feed_92 rfl (lv_at hl 1 rfl) ?_
        refine r_getI (k := 2) C hw shM_0 ltM_0 cO11 rfl (by decide) tw5_146 rfl dX11_feed_93 hf (fun v93 hf => ?_)
        refine lv_iload C.1.1 C.1.2.1 dX11_feed_96 (lv_at hl 0 rfl) ?_
        refine r_iast C hw shM_1 ltM_1 (Nat.le_of_ble_eq_true rfl) dX11_feed_98 hf (fun S98 H locs hf hw => ?_)
        refine lv_aload_n C.1.1 C.1.2.1 dX11_feed_99 rfl (lv_at hl 1 rfl) ?_
        refine lv_dup C.1.1 C.1.2.1 dX11_feed_100 rfl ?_
        refine r_getI (k := 2) C hw shM_0 ltM_0 cO11 rfl (by decide) tw5_146 rfl dX11_feed_101 hf (fun v101 hf => ?_)
        refine r_iconst (v := 1) C dX11_feed_104 ?_
        refine r_iadd C dX11_feed_105 ?_
        refine r_putI (k := 2) C hw shM_0 ltM_0 cO11 rfl (by decide) tw5_146 rfl rfl rfl dX11_feed_106 hf (fun S106 H locs hf hw => ?_)
        exact (w_X11_feed_109 l hinj hZ C out (f_X11_feed_62 k115 N) ih N) x1 x2 x3 x4 x5 x7 S106 H locs ls hf hw (lv_sub hl [1, 2, 3, 4, 5, 6, 7] rfl)
set_option maxRecDepth 100000 in
set_option maxHeartbeats 4000000 in
theorem w_X11_feed_44 {p : Program} (l : Launch) {e : Env} {s : State} {m : MethodId} {args : Array Value} {below : List Frame} {meth : Method} {c : Code} {X : XT} (hinj : XInj X nM) (hZ : ZOK (Zm X)) (C : CX p s m args meth c cX11_feed 9 RX11 (some .int) X nM (Zm X)) (out : Int × S2) : ∀ (N : Nat), ∀ (x1 : Int) (x2 : Int) (x3 : Int) (x4 : Int) (x5 : Int) (x6 : Int) (S : S2) (H : Heap) (locs : List Loc) (ls : Array Slot), f_X11_feed_44 N x1 x2 x3 x4 x5 x6 S = some out → WH X shM nM s S H locs → lv_has ls 9 [(0, .ref (X.2.2 0)), (1, .int (iz x1)), (2, .int (iz x2)), (3, .int (iz x3)), (4, .int (iz x4)), (5, .int (iz x5)), (6, .int (iz x6))] → W p l e rmX11_feed s m args below meth c H locs 0 0 (QI X shM nM s args below out) (F0 m 44 ls []) := by
  intro N x1 x2 x3 x4 x5 x6 S H locs ls hf hw hl
  unfold f_X11_feed_44 at hf
  refine lv_aload_n C.1.1 C.1.2.1 dX11_feed_44 rfl (lv_at hl 0 rfl) ?_
  refine r_getI (k := 2) C hw shM_0 ltM_0 cO11 rfl (by decide) tw5_146 rfl dX11_feed_45 hf (fun v45 hf => ?_)
  refine lv_iload C.1.1 C.1.2.1 dX11_feed_48 (lv_at hl 6 rfl) ?_
  refine r_iadd C dX11_feed_50 ?_
  refine r_sipush (v := 400) C dX11_feed_51 (by decide) ?_
  refine r_icmp_le C (tgt := 59) dX11_feed_54 (by decide) hf (fun hf => ?_) (fun hf => ?_)
  · refine r_iconst (v := 0) C dX11_feed_59 ?_
    refine lv_istore (lv' := [(7, .int (iz 0)), (0, .ref (X.2.2 0)), (1, .int (iz x1)), (2, .int (iz x2)), (3, .int (iz x3)), (4, .int (iz x4)), (5, .int (iz x5)), (6, .int (iz x6))]) C.1.1 C.1.2.1 dX11_feed_60 hl (by decide) rfl (fun ls hl => ?_)
    exact (w_X11_feed_62 l hinj hZ C out (f_X11_feed_115 N) (w_X11_feed_115 l hinj hZ C out N) N) x1 x2 x3 x4 x5 0 S H locs ls hf hw (lv_sub hl [1, 2, 3, 4, 5, 6, 0] rfl)
  · refine r_iconst (v := (-1)) C dX11_feed_57 ?_
    exact r_retI C hw dX11_feed_58 hf
set_option maxRecDepth 100000 in
set_option maxHeartbeats 4000000 in
theorem w_X11_feed_35 {p : Program} (l : Launch) {e : Env} {s : State} {m : MethodId} {args : Array Value} {below : List Frame} {meth : Method} {c : Code} {X : XT} (hinj : XInj X nM) (hZ : ZOK (Zm X)) (C : CX p s m args meth c cX11_feed 9 RX11 (some .int) X nM (Zm X)) (out : Int × S2) (k6 : Int → Int → Int → Int → Int → Int → Int → S2 → Option (Int × S2)) (hk6 : ∀ (x1 : Int) (x2 : Int) (x3 : Int) (x4 : Int) (x5 : Int) (x6 : Int) (x7 : Int) (S : S2) (H : Heap) (locs : List Loc) (ls : Array Slot), k6 x1 x2 x3 x4 x5 x6 x7 S = some out → WH X shM nM s S H locs → lv_has ls 9 [(0, .ref (X.2.2 0)), (1, .int (iz x1)), (2, .int (iz x2)), (3, .int (iz x3)), (4, .int (iz x4)), (5, .int (iz x5)), (6, .int (iz x6)), (7, .int (iz x7))] → W p l e rmX11_feed s m args below meth c H locs 0 0 (QI X shM nM s args below out) (F0 m 6 ls [])) : ∀ (N : Nat), ∀ (x1 : Int) (x2 : Int) (x3 : Int) (x4 : Int) (x5 : Int) (x7 : Int) (y0 : Int) (y1 : Int) (S : S2) (H : Heap) (locs : List Loc) (ls : Array Slot), f_X11_feed_35 k6 N x1 x2 x3 x4 x5 x7 y0 y1 S = some out → WH X shM nM s S H locs → lv_has ls 9 [(0, .ref (X.2.2 0)), (1, .int (iz x1)), (2, .int (iz x2)), (3, .int (iz x3)), (4, .int (iz x4)), (5, .int (iz x5)), (7, .int (iz x7))] → W p l e rmX11_feed s m args below meth c H locs 0 0 (QI X shM nM s args below out) (F0 m 35 ls [.int (iz y0), .int (iz y1)]) := by
  intro N x1 x2 x3 x4 x5 x7 y0 y1 S H locs ls hf hw hl
  unfold f_X11_feed_35 at hf
  refine r_iadd C dX11_feed_35 ?_
  refine lv_istore (lv' := [(6, .int (iz (y1 + y0))), (0, .ref (X.2.2 0)), (1, .int (iz x1)), (2, .int (iz x2)), (3, .int (iz x3)), (4, .int (iz x4)), (5, .int (iz x5)), (7, .int (iz x7))]) C.1.1 C.1.2.1 dX11_feed_36 hl (by decide) rfl (fun ls hl => ?_)
  refine lv_iinc (v := iz (x7 + 1)) (lv' := [(7, .int (iz (x7 + 1))), (6, .int (iz (y1 + y0))), (0, .ref (X.2.2 0)), (1, .int (iz x1)), (2, .int (iz x2)), (3, .int (iz x3)), (4, .int (iz x4)), (5, .int (iz x5))]) C.1.1 C.1.2.1 dX11_feed_38 hl (k := 7) rfl (iz_add _ _) (by decide) rfl (fun ls hl => ?_)
  refine lv_goto (tgt := 6) C.1.1 C.1.2.1 dX11_feed_41 (by decide) ?_
  exact hk6 x1 x2 x3 x4 x5 (y1 + y0) (x7 + 1) S H locs ls hf hw (lv_sub hl [2, 3, 4, 5, 6, 7, 1, 0] rfl)
set_option maxRecDepth 100000 in
set_option maxHeartbeats 4000000 in
theorem w_X11_feed_6 {p : Program} (l : Launch) {e : Env} {s : State} {m : MethodId} {args : Array Value} {below : List Frame} {meth : Method} {c : Code} {X : XT} (hinj : XInj X nM) (hZ : ZOK (Zm X)) (C : CX p s m args meth c cX11_feed 9 RX11 (some .int) X nM (Zm X)) (out : Int × S2) (k44 : Int → Int → Int → Int → Int → Int → S2 → Option (Int × S2)) (hk44 : ∀ (x1 : Int) (x2 : Int) (x3 : Int) (x4 : Int) (x5 : Int) (x6 : Int) (S : S2) (H : Heap) (locs : List Loc) (ls : Array Slot), k44 x1 x2 x3 x4 x5 x6 S = some out → WH X shM nM s S H locs → lv_has ls 9 [(0, .ref (X.2.2 0)), (1, .int (iz x1)), (2, .int (iz x2)), (3, .int (iz x3)), (4, .int (iz x4)), (5, .int (iz x5)), (6, .int (iz x6))] → W p l e rmX11_feed s m args below meth c H locs 0 0 (QI X shM nM s args below out) (F0 m 44 ls [])) : ∀ (N : Nat), ∀ (x1 : Int) (x2 : Int) (x3 : Int) (x4 : Int) (x5 : Int) (x6 : Int) (x7 : Int) (S : S2) (H : Heap) (locs : List Loc) (ls : Array Slot), f_X11_feed_6 k44 N x1 x2 x3 x4 x5 x6 x7 S = some out → WH X shM nM s S H locs → lv_has ls 9 [(0, .ref (X.2.2 0)), (1, .int (iz x1)), (2, .int (iz x2)), (3, .int (iz x3)), (4, .int (iz x4)), (5, .int (iz x5)), (6, .int (iz x6)), (7, .int (iz x7))] → W p l e rmX11_feed s m args below meth c H locs 0 0 (QI X shM nM s args below out) (F0 m 6 ls []) := by
  intro N
  induction N with
  | zero => intro x1 x2 x3 x4 x5 x6 x7 S H locs ls hf hw hl; cases hf
  | succ N ih =>
    intro x1 x2 x3 x4 x5 x6 x7 S H locs ls hf hw hl
    rw [f_X11_feed_6.eq_2] at hf
    refine lv_iload C.1.1 C.1.2.1 dX11_feed_6 (lv_at hl 7 rfl) ?_
    refine r_bipush (v := 20) C dX11_feed_8 (by decide) ?_
    refine r_icmp_ge C (tgt := 44) dX11_feed_10 (by decide) hf (fun hf => ?_) (fun hf => ?_)
    · exact hk44 x1 x2 x3 x4 x5 x6 S H locs ls hf hw (lv_sub hl [0, 1, 2, 3, 4, 5, 6] rfl)
    · refine lv_iload C.1.1 C.1.2.1 dX11_feed_13 (lv_at hl 6 rfl) ?_
      refine lv_iload_n C.1.1 C.1.2.1 dX11_feed_15 rfl (lv_at hl 1 rfl) ?_
      refine lv_iload_n C.1.1 C.1.2.1 dX11_feed_16 rfl (lv_at hl 2 rfl) ?_
      refine lv_iload_n C.1.1 C.1.2.1 dX11_feed_17 rfl (lv_at hl 3 rfl) ?_
      refine lv_iload C.1.1 C.1.2.1 dX11_feed_18 (lv_at hl 4 rfl) ?_
      refine lv_iload C.1.1 C.1.2.1 dX11_feed_20 (lv_at hl 5 rfl) ?_
      refine lv_iload C.1.1 C.1.2.1 dX11_feed_22 (lv_at hl 7 rfl) ?_
      refine r_scallI (As := [.int (iz x1), .int (iz x2), .int (iz x3), .int (iz x4), .int (iz x5), .int (iz x7)]) (rest := [.int (iz x6)]) (rm := rmX11_byteOf) C hw tw6_70 tw6_71 tw1_12 tw6_72 hd_X11_byteOf rfl ⟨⟨rfl, rfl⟩, Nat.le_of_ble_eq_true rfl, Nat.le_of_ble_eq_true rfl⟩ hl.1 rfl (Nat.le_of_ble_eq_true rfl) dX11_feed_24 hf (fun o ho => c_X11_byteOf l X hinj hZ N S x1 x2 x3 x4 x5 x7 o ho) (fun v24 S24 H locs hf hw => ?_)
      refine r_if_eq C (tgt := 34) dX11_feed_27 (by decide) hf (fun hf => ?_) (fun hf => ?_)
      · refine r_iconst (v := 0) C dX11_feed_34 ?_
        exact (w_X11_feed_35 l hinj hZ C out (f_X11_feed_6 k44 N) ih N) x1 x2 x3 x4 x5 x7 0 x6 S24 H locs ls hf hw (lv_sub hl [0, 1, 2, 3, 4, 5, 7] rfl)
      · refine r_iconst (v := 1) C dX11_feed_30 ?_
        refine lv_goto (tgt := 35) C.1.1 C.1.2.1 dX11_feed_31 (by decide) ?_
        exact (w_X11_feed_35 l hinj hZ C out (f_X11_feed_6 k44 N) ih N) x1 x2 x3 x4 x5 x7 1 x6 S24 H locs ls hf hw (lv_sub hl [0, 1, 2, 3, 4, 5, 7] rfl)
set_option maxRecDepth 100000 in
set_option maxHeartbeats 4000000 in
theorem c_X11_feed (l : Launch) (X : XT) (hinj : XInj X nM) (hZ : ZOK (Zm X)) (N : Nat) (S : S2) (a1 : Int) (a2 : Int) (a3 : Int) (a4 : Int) (a5 : Int) (out : Int × S2) (hf : f_X11_feed N S a1 a2 a3 a4 a5 = some out) : MI l X shM nM (Zm X) yX11_feed cX11_feed 9 (some .int) rmX11_feed [.ref (X.2.2 0), .int (iz a1), .int (iz a2), .int (iz a3), .int (iz a4), .int (iz a5)] S out := by
  refine met_I (own := RX11) (by decide) rfl hinj hZ (Nat.le_of_ble_eq_true rfl) (fun p e s m args below meth c C ls H locs hw hl => ?_)
  unfold f_X11_feed at hf
  have hl : lv_has ls 9 [(0, .ref (X.2.2 0)), (1, .int (iz a1)), (2, .int (iz a2)), (3, .int (iz a3)), (4, .int (iz a4)), (5, .int (iz a5))] := hl
  refine r_iconst (v := 0) C dX11_feed_0 ?_
  refine lv_istore (lv' := [(6, .int (iz 0)), (0, .ref (X.2.2 0)), (1, .int (iz a1)), (2, .int (iz a2)), (3, .int (iz a3)), (4, .int (iz a4)), (5, .int (iz a5))]) C.1.1 C.1.2.1 dX11_feed_1 hl (by decide) rfl (fun ls hl => ?_)
  refine r_iconst (v := 0) C dX11_feed_3 ?_
  refine lv_istore (lv' := [(7, .int (iz 0)), (6, .int (iz 0)), (0, .ref (X.2.2 0)), (1, .int (iz a1)), (2, .int (iz a2)), (3, .int (iz a3)), (4, .int (iz a4)), (5, .int (iz a5))]) C.1.1 C.1.2.1 dX11_feed_4 hl (by decide) rfl (fun ls hl => ?_)
  exact (w_X11_feed_6 l hinj hZ C out (f_X11_feed_44 N) (w_X11_feed_44 l hinj hZ C out N) N) a1 a2 a3 a4 a5 0 0 S H locs ls hf hw (lv_sub hl [2, 3, 4, 5, 6, 7, 1, 0] rfl)
def f_X11_end (N : Nat) (S : S2) (a1 : Int) : Option (Int × S2) := gI S 0 2 fun v3 => bI (f_X11_in N S a1 0 v3) fun v6 S6 => cI v6 0 (if v6 = 0 then rZ 0 S6 else uI S6 0 2 a1 fun S16 => rZ 1 S16)
abbrev rmX11_end : Room := { frames := 1, cells := 0, slots := 0, locals := 22 }
theorem hd_X11_end : yX11_end.cls ≠ "java/lang/invoke/MethodHandle" ∧ yX11_end.cls ≠ "java/lang/invoke/VarHandle" ∧ (parseMethodDescriptor yX11_end.desc).map (fun d => d.parameters.length) = some 1 := by decide +kernel
set_option maxRecDepth 100000 in
set_option maxHeartbeats 4000000 in
theorem c_X11_end (l : Launch) (X : XT) (hinj : XInj X nM) (hZ : ZOK (Zm X)) (N : Nat) (S : S2) (a1 : Int) (out : Int × S2) (hf : f_X11_end N S a1 = some out) : MI l X shM nM (Zm X) yX11_end cX11_end 2 (some .boolean) rmX11_end [.ref (X.2.2 0), .int (iz a1)] S out := by
  refine met_I (own := RX11) (by decide) rfl hinj hZ (Nat.le_of_ble_eq_true rfl) (fun p e s m args below meth c C ls H locs hw hl => ?_)
  unfold f_X11_end at hf
  have hl : lv_has ls 2 [(0, .ref (X.2.2 0)), (1, .int (iz a1))] := hl
  refine lv_iload_n C.1.1 C.1.2.1 dX11_end_0 rfl (lv_at hl 1 rfl) ?_
  refine r_iconst (v := 0) C dX11_end_1 ?_
  refine lv_aload_n C.1.1 C.1.2.1 dX11_end_2 rfl (lv_at hl 0 rfl) ?_
  refine r_getI (k := 2) C hw shM_0 ltM_0 cO11 rfl (by decide) tw5_146 rfl dX11_end_3 hf (fun v3 hf => ?_)
  refine r_scallI (As := [.int (iz a1), .int (iz 0), .int (iz v3)]) (rest := []) (rm := rmX11_in) C hw tw6_77 tw6_78 tw1_12 tw6_79 hd_X11_in rfl ⟨⟨rfl, rfl⟩, Nat.le_of_ble_eq_true rfl, Nat.le_of_ble_eq_true rfl⟩ hl.1 rfl (Nat.le_of_ble_eq_true rfl) dX11_end_6 hf (fun o ho => c_X11_in l X hinj hZ N S a1 0 v3 o ho) (fun v6 S6 H locs hf hw => ?_)
  refine r_if_ne C (tgt := 14) dX11_end_9 (by decide) hf (fun hf => ?_) (fun hf => ?_)
  · refine lv_aload_n C.1.1 C.1.2.1 dX11_end_14 rfl (lv_at hl 0 rfl) ?_
    refine lv_iload_n C.1.1 C.1.2.1 dX11_end_15 rfl (lv_at hl 1 rfl) ?_
    refine r_putI (k := 2) C hw shM_0 ltM_0 cO11 rfl (by decide) tw5_146 rfl rfl rfl dX11_end_16 hf (fun S16 H locs hf hw => ?_)
    refine r_iconst (v := 1) C dX11_end_19 ?_
    exact r_retZ C hw dX11_end_20 hf
  · refine r_iconst (v := 0) C dX11_end_12 ?_
    exact r_retZ C hw dX11_end_13 hf
def f_X11_here (N : Nat) (S : S2) : Option (Int × S2) := gI S 0 3 fun v1 => gI S 0 2 fun v5 => cI v1 v5 (if v5 ≤ v1 then rI (-1) S else gI S 0 3 fun v16 => aI S 1 400 v16 fun v19 => rI v19 S)
abbrev rmX11_here : Room := { frames := 0, cells := 0, slots := 0, locals := 0 }
theorem hd_X11_here : yX11_here.cls ≠ "java/lang/invoke/MethodHandle" ∧ yX11_here.cls ≠ "java/lang/invoke/VarHandle" ∧ (parseMethodDescriptor yX11_here.desc).map (fun d => d.parameters.length) = some 0 := by decide +kernel
set_option maxRecDepth 100000 in
set_option maxHeartbeats 4000000 in
theorem c_X11_here (l : Launch) (X : XT) (hinj : XInj X nM) (hZ : ZOK (Zm X)) (N : Nat) (S : S2) (out : Int × S2) (hf : f_X11_here N S = some out) : MI l X shM nM (Zm X) yX11_here cX11_here 1 (some .int) rmX11_here [.ref (X.2.2 0)] S out := by
  refine met_I (own := RX11) (by decide) rfl hinj hZ (Nat.le_of_ble_eq_true rfl) (fun p e s m args below meth c C ls H locs hw hl => ?_)
  unfold f_X11_here at hf
  have hl : lv_has ls 1 [(0, .ref (X.2.2 0))] := hl
  refine lv_aload_n C.1.1 C.1.2.1 dX11_here_0 rfl (lv_at hl 0 rfl) ?_
  refine r_getI (k := 3) C hw shM_0 ltM_0 cO11 rfl (by decide) tw5_147 rfl dX11_here_1 hf (fun v1 hf => ?_)
  refine lv_aload_n C.1.1 C.1.2.1 dX11_here_4 rfl (lv_at hl 0 rfl) ?_
  refine r_getI (k := 2) C hw shM_0 ltM_0 cO11 rfl (by decide) tw5_146 rfl dX11_here_5 hf (fun v5 hf => ?_)
  refine r_icmp_ge C (tgt := 23) dX11_here_8 (by decide) hf (fun hf => ?_) (fun hf => ?_)
  · refine r_iconst (v := (-1)) C dX11_here_23 ?_
    exact r_retI C hw dX11_here_24 hf
  · refine lv_aload_n C.1.1 C.1.2.1 dX11_here_11 rfl (lv_at hl 0 rfl) ?_
    refine r_getR (k := 1) C hw shM_0 ltM_0 cO11 rfl (by decide) tw5_145 rfl dX11_here_12 ?_
    refine lv_aload_n C.1.1 C.1.2.1 dX11_here_15 rfl (lv_at hl 0 rfl) ?_
    refine r_getI (k := 3) C hw shM_0 ltM_0 cO11 rfl (by decide) tw5_147 rfl dX11_here_16 hf (fun v16 hf => ?_)
    refine r_iald C hw shM_1 ltM_1 (Nat.le_of_ble_eq_true rfl) dX11_here_19 hf (fun v19 hf => ?_)
    refine lv_goto (tgt := 24) C.1.1 C.1.2.1 dX11_here_20 (by decide) ?_
    exact r_retI C hw dX11_here_24 hf
def f_X11_isDigit (N : Nat) (S : S2) (a0 : Int) : Option (Int × S2) := cI a0 48 (if a0 < 48 then rZ 0 S else cI a0 57 (if 57 < a0 then rZ 0 S else rZ 1 S))
abbrev rmX11_isDigit : Room := { frames := 0, cells := 0, slots := 0, locals := 0 }
theorem hd_X11_isDigit : yX11_isDigit.cls ≠ "java/lang/invoke/MethodHandle" ∧ yX11_isDigit.cls ≠ "java/lang/invoke/VarHandle" ∧ (parseMethodDescriptor yX11_isDigit.desc).map (fun d => d.parameters.length) = some 1 := by decide +kernel
set_option maxRecDepth 100000 in
set_option maxHeartbeats 4000000 in
theorem c_X11_isDigit (l : Launch) (X : XT) (hinj : XInj X nM) (hZ : ZOK (Zm X)) (N : Nat) (S : S2) (a0 : Int) (out : Int × S2) (hf : f_X11_isDigit N S a0 = some out) : MI l X shM nM (Zm X) yX11_isDigit cX11_isDigit 1 (some .boolean) rmX11_isDigit [.int (iz a0)] S out := by
  refine met_I (own := RX11) (by decide) rfl hinj hZ (Nat.le_of_ble_eq_true rfl) (fun p e s m args below meth c C ls H locs hw hl => ?_)
  unfold f_X11_isDigit at hf
  have hl : lv_has ls 1 [(0, .int (iz a0))] := hl
  refine lv_iload_n C.1.1 C.1.2.1 dX11_isDigit_0 rfl (lv_at hl 0 rfl) ?_
  refine r_bipush (v := 48) C dX11_isDigit_1 (by decide) ?_
  refine r_icmp_lt C (tgt := 16) dX11_isDigit_3 (by decide) hf (fun hf => ?_) (fun hf => ?_)
  · refine r_iconst (v := 0) C dX11_isDigit_16 ?_
    exact r_retZ C hw dX11_isDigit_17 hf
  · refine lv_iload_n C.1.1 C.1.2.1 dX11_isDigit_6 rfl (lv_at hl 0 rfl) ?_
    refine r_bipush (v := 57) C dX11_isDigit_7 (by decide) ?_
    refine r_icmp_gt C (tgt := 16) dX11_isDigit_9 (by decide) hf (fun hf => ?_) (fun hf => ?_)
    · refine r_iconst (v := 0) C dX11_isDigit_16 ?_
      exact r_retZ C hw dX11_isDigit_17 hf
    · refine r_iconst (v := 1) C dX11_isDigit_12 ?_
      refine lv_goto (tgt := 17) C.1.1 C.1.2.1 dX11_isDigit_13 (by decide) ?_
      exact r_retZ C hw dX11_isDigit_17 hf
def f_X11_isLetter (N : Nat) (S : S2) (a0 : Int) : Option (Int × S2) := cI a0 97 (if a0 < 97 then rZ 0 S else cI a0 122 (if 122 < a0 then rZ 0 S else rZ 1 S))
abbrev rmX11_isLetter : Room := { frames := 0, cells := 0, slots := 0, locals := 0 }
theorem hd_X11_isLetter : yX11_isLetter.cls ≠ "java/lang/invoke/MethodHandle" ∧ yX11_isLetter.cls ≠ "java/lang/invoke/VarHandle" ∧ (parseMethodDescriptor yX11_isLetter.desc).map (fun d => d.parameters.length) = some 1 := by decide +kernel
set_option maxRecDepth 100000 in
set_option maxHeartbeats 4000000 in
theorem c_X11_isLetter (l : Launch) (X : XT) (hinj : XInj X nM) (hZ : ZOK (Zm X)) (N : Nat) (S : S2) (a0 : Int) (out : Int × S2) (hf : f_X11_isLetter N S a0 = some out) : MI l X shM nM (Zm X) yX11_isLetter cX11_isLetter 1 (some .boolean) rmX11_isLetter [.int (iz a0)] S out := by
  refine met_I (own := RX11) (by decide) rfl hinj hZ (Nat.le_of_ble_eq_true rfl) (fun p e s m args below meth c C ls H locs hw hl => ?_)
  unfold f_X11_isLetter at hf
  have hl : lv_has ls 1 [(0, .int (iz a0))] := hl
  refine lv_iload_n C.1.1 C.1.2.1 dX11_isLetter_0 rfl (lv_at hl 0 rfl) ?_
  refine r_bipush (v := 97) C dX11_isLetter_1 (by decide) ?_
  refine r_icmp_lt C (tgt := 16) dX11_isLetter_3 (by decide) hf (fun hf => ?_) (fun hf => ?_)
  · refine r_iconst (v := 0) C dX11_isLetter_16 ?_
    exact r_retZ C hw dX11_isLetter_17 hf
  · refine lv_iload_n C.1.1 C.1.2.1 dX11_isLetter_6 rfl (lv_at hl 0 rfl) ?_
    refine r_bipush (v := 122) C dX11_isLetter_7 (by decide) ?_
    refine r_icmp_gt C (tgt := 16) dX11_isLetter_9 (by decide) hf (fun hf => ?_) (fun hf => ?_)
    · refine r_iconst (v := 0) C dX11_isLetter_16 ?_
      exact r_retZ C hw dX11_isLetter_17 hf
    · refine r_iconst (v := 1) C dX11_isLetter_12 ?_
      refine lv_goto (tgt := 17) C.1.1 C.1.2.1 dX11_isLetter_13 (by decide) ?_
      exact r_retZ C hw dX11_isLetter_17 hf
def f_X11_readWord_76 (N : Nat) (S : S2) : Option (S2) := uI S 0 4 1 fun S78 => rV S78
def f_X11_readWord_63 (k10 : S2 → Option (S2)) (N : Nat) (S : S2) : Option (S2) := gI S 0 3 fun v65 => uI S 0 3 (v65 + 1) fun S70 => k10 S70
def f_X11_readWord_10 (k76 : S2 → Option (S2)) : Nat → S2 → Option (S2)
  | 0, _ => none
  | N + 1, S => bI (f_X11_here N S) fun v11 S11 => bI (f_X11_isLetter N S11 v11) fun v14 S14 => cI v14 0 (if v14 = 0 then k76 S14 else gI S14 0 7 fun v21 => cI v21 7 (if 7 ≤ v21 then (f_X11_readWord_63 (f_X11_readWord_10 k76 N) N) S14 else gL S14 0 9 fun v34 => bI (f_X11_here N S14) fun v39 S39 => uL S39 0 9 (((((27 : Int64) * v34) + ((iz v39).toInt64)) - (97 : Int64)) + (1 : Int64)) fun S50 => gI S50 0 7 fun v55 => uI S50 0 7 (v55 + 1) fun S60 => (f_X11_readWord_63 (f_X11_readWord_10 k76 N) N) S60))
def f_X11_readWord (N : Nat) (S : S2) : Option (S2) := uL S 0 9 (0 : Int64) fun S2 => uI S2 0 7 0 fun S7 => (f_X11_readWord_10 (f_X11_readWord_76 N) N) S7
abbrev rmX11_readWord : Room := { frames := 1, cells := 0, slots := 0, locals := 20 }
theorem hd_X11_readWord : yX11_readWord.cls ≠ "java/lang/invoke/MethodHandle" ∧ yX11_readWord.cls ≠ "java/lang/invoke/VarHandle" ∧ (parseMethodDescriptor yX11_readWord.desc).map (fun d => d.parameters.length) = some 0 := by decide +kernel
set_option maxRecDepth 100000 in
set_option maxHeartbeats 4000000 in
theorem w_X11_readWord_76 {p : Program} (l : Launch) {e : Env} {s : State} {m : MethodId} {args : Array Value} {below : List Frame} {meth : Method} {c : Code} {X : XT} (hinj : XInj X nM) (hZ : ZOK (Zm X)) (C : CX p s m args meth c cX11_readWord 1 RX11 none X nM (Zm X)) (out : S2) : ∀ (N : Nat), ∀ (S : S2) (H : Heap) (locs : List Loc) (ls : Array Slot), f_X11_readWord_76 N S = some out → WH X shM nM s S H locs → lv_has ls 1 [(0, .ref (X.2.2 0))] → W p l e rmX11_readWord s m args below meth c H locs 0 0 (QV X shM nM s args below out) (F0 m 76 ls []) := by
  intro N S H locs ls hf hw hl
  unfold f_X11_readWord_76 at hf
  refine lv_aload_n C.1.1 C.1.2.1 dX11_readWord_76 rfl (lv_at hl 0 rfl) ?_
  refine r_iconst (v := 1) C dX11_readWord_77 ?_
  refine r_putI (k := 4) C hw shM_0 ltM_0 cO11 rfl (by decide) tw5_148 rfl rfl rfl dX11_readWord_78 hf (fun S78 H locs hf hw => ?_)
  exact r_retV C hw dX11_readWord_81 hf
set_option maxRecDepth 100000 in
set_option maxHeartbeats 4000000 in
theorem w_X11_readWord_63 {p : Program} (l : Launch) {e : Env} {s : State} {m : MethodId} {args : Array Value} {below : List Frame} {meth : Method} {c : Code} {X : XT} (hinj : XInj X nM) (hZ : ZOK (Zm X)) (C : CX p s m args meth c cX11_readWord 1 RX11 none X nM (Zm X)) (out : S2) (k10 : S2 → Option (S2)) (hk10 : ∀ (S : S2) (H : Heap) (locs : List Loc) (ls : Array Slot), k10 S = some out → WH X shM nM s S H locs → lv_has ls 1 [(0, .ref (X.2.2 0))] → W p l e rmX11_readWord s m args below meth c H locs 0 0 (QV X shM nM s args below out) (F0 m 10 ls [])) : ∀ (N : Nat), ∀ (S : S2) (H : Heap) (locs : List Loc) (ls : Array Slot), f_X11_readWord_63 k10 N S = some out → WH X shM nM s S H locs → lv_has ls 1 [(0, .ref (X.2.2 0))] → W p l e rmX11_readWord s m args below meth c H locs 0 0 (QV X shM nM s args below out) (F0 m 63 ls []) := by
  intro N S H locs ls hf hw hl
  unfold f_X11_readWord_63 at hf
  refine lv_aload_n C.1.1 C.1.2.1 dX11_readWord_63 rfl (lv_at hl 0 rfl) ?_
  refine lv_dup C.1.1 C.1.2.1 dX11_readWord_64 rfl ?_
  refine r_getI (k := 3) C hw shM_0 ltM_0 cO11 rfl (by decide) tw5_147 rfl dX11_readWord_65 hf (fun v65 hf => ?_)
  refine r_iconst (v := 1) C dX11_readWord_68 ?_
  refine r_iadd C dX11_readWord_69 ?_
  refine r_putI (k := 3) C hw shM_0 ltM_0 cO11 rfl (by decide) tw5_147 rfl rfl rfl dX11_readWord_70 hf (fun S70 H locs hf hw => ?_)
  refine lv_goto (tgt := 10) C.1.1 C.1.2.1 dX11_readWord_73 (by decide) ?_
  exact hk10 S70 H locs ls hf hw (lv_sub hl [0] rfl)
set_option maxRecDepth 100000 in
set_option maxHeartbeats 4000000 in
theorem w_X11_readWord_10 {p : Program} (l : Launch) {e : Env} {s : State} {m : MethodId} {args : Array Value} {below : List Frame} {meth : Method} {c : Code} {X : XT} (hinj : XInj X nM) (hZ : ZOK (Zm X)) (C : CX p s m args meth c cX11_readWord 1 RX11 none X nM (Zm X)) (out : S2) (k76 : S2 → Option (S2)) (hk76 : ∀ (S : S2) (H : Heap) (locs : List Loc) (ls : Array Slot), k76 S = some out → WH X shM nM s S H locs → lv_has ls 1 [(0, .ref (X.2.2 0))] → W p l e rmX11_readWord s m args below meth c H locs 0 0 (QV X shM nM s args below out) (F0 m 76 ls [])) : ∀ (N : Nat), ∀ (S : S2) (H : Heap) (locs : List Loc) (ls : Array Slot), f_X11_readWord_10 k76 N S = some out → WH X shM nM s S H locs → lv_has ls 1 [(0, .ref (X.2.2 0))] → W p l e rmX11_readWord s m args below meth c H locs 0 0 (QV X shM nM s args below out) (F0 m 10 ls []) := by
  intro N
  induction N with
  | zero => intro S H locs ls hf hw hl; cases hf
  | succ N ih =>
    intro S H locs ls hf hw hl
    rw [f_X11_readWord_10.eq_2] at hf
    refine lv_aload_n C.1.1 C.1.2.1 dX11_readWord_10 rfl (lv_at hl 0 rfl) ?_
    refine r_callI (As := []) (rest := []) (rm := rmX11_here) C hw shM_0 ltM_0 cO11 tw6_96 tw6_98 tp_48 tw1_12 tw6_99 hd_X11_here rfl ⟨⟨rfl, rfl⟩, Nat.le_of_ble_eq_true rfl, Nat.le_of_ble_eq_true rfl⟩ hl.1 rfl (Nat.le_of_ble_eq_true rfl) dX11_readWord_11 hf (fun o ho => c_X11_here l X hinj hZ N S o ho) (fun v11 S11 H locs hf hw => ?_)
    refine r_scallI (As := [.int (iz v11)]) (rest := []) (rm := rmX11_isLetter) C hw tw6_100 tw6_101 tw1_12 tw6_102 hd_X11_isLetter rfl ⟨⟨rfl, rfl⟩, Nat.le_of_ble_eq_true rfl, Nat.le_of_ble_eq_true rfl⟩ hl.1 rfl (Nat.le_of_ble_eq_true rfl) dX11_readWord_14 hf (fun o ho => c_X11_isLetter l X hinj hZ N S11 v11 o ho) (fun v14 S14 H locs hf hw => ?_)
    refine r_if_eq C (tgt := 76) dX11_readWord_17 (by decide) hf (fun hf => ?_) (fun hf => ?_)
    · exact hk76 S14 H locs ls hf hw (lv_sub hl [0] rfl)
    · refine lv_aload_n C.1.1 C.1.2.1 dX11_readWord_20 rfl (lv_at hl 0 rfl) ?_
      refine r_getI (k := 7) C hw shM_0 ltM_0 cO11 rfl (by decide) tw5_151 rfl dX11_readWord_21 hf (fun v21 hf => ?_)
      refine r_bipush (v := 7) C dX11_readWord_24 (by decide) ?_
      refine r_icmp_ge C (tgt := 63) dX11_readWord_26 (by decide) hf (fun hf => ?_) (fun hf => ?_)
      · exact (w_X11_readWord_63 l hinj hZ C out (f_X11_readWord_10 k76 N) ih N) S14 H locs ls hf hw (lv_sub hl [0] rfl)
      · refine lv_aload_n C.1.1 C.1.2.1 dX11_readWord_29 rfl (lv_at hl 0 rfl) ?_
        refine lv_ldc2 (v := 27) C.1.1 C.1.2.1 C.1.2.2.2.1 (C.1.2.2.2.2 _ tw6_107) dX11_readWord_30 ?_
        refine lv_aload_n C.1.1 C.1.2.1 dX11_readWord_33 rfl (lv_at hl 0 rfl) ?_
        refine r_getL (k := 9) C hw shM_0 ltM_0 cO11 rfl (by decide) tw5_153 rfl dX11_readWord_34 hf (fun v34 hf => ?_)
        refine lv_lmul C.1.1 C.1.2.1 dX11_readWord_37 ?_
        refine lv_aload_n C.1.1 C.1.2.1 dX11_readWord_38 rfl (lv_at hl 0 rfl) ?_
        refine r_callI (As := []) (rest := [.long ((27 : Int64) * v34), .ref (X.2.2 0)]) (rm := rmX11_here) C hw shM_0 ltM_0 cO11 tw6_96 tw6_98 tp_48 tw1_12 tw6_99 hd_X11_here rfl ⟨⟨rfl, rfl⟩, Nat.le_of_ble_eq_true rfl, Nat.le_of_ble_eq_true rfl⟩ hl.1 rfl (Nat.le_of_ble_eq_true rfl) dX11_readWord_39 hf (fun o ho => c_X11_here l X hinj hZ N S14 o ho) (fun v39 S39 H locs hf hw => ?_)
        refine lv_i2l (v := ((iz v39).toInt64)) C.1.1 C.1.2.1 dX11_readWord_42 rfl ?_
        refine lv_ladd C.1.1 C.1.2.1 dX11_readWord_43 ?_
        refine lv_ldc2 (v := 97) C.1.1 C.1.2.1 C.1.2.2.2.1 (C.1.2.2.2.2 _ tw6_108) dX11_readWord_44 ?_
        refine lv_lsub C.1.1 C.1.2.1 dX11_readWord_47 ?_
        refine lv_lconst (v := 1) C.1.1 C.1.2.1 dX11_readWord_48 (by decide) ?_
        refine lv_ladd C.1.1 C.1.2.1 dX11_readWord_49 ?_
        refine r_putL (k := 9) C hw shM_0 ltM_0 cO11 rfl (by decide) tw5_153 rfl rfl rfl dX11_readWord_50 hf (fun S50 H locs hf hw => ?_)
        refine lv_aload_n C.1.1 C.1.2.1 dX11_readWord_53 rfl (lv_at hl 0 rfl) ?_
        refine lv_dup C.1.1 C.1.2.1 dX11_readWord_54 rfl ?_
        refine r_getI (k := 7) C hw shM_0 ltM_0 cO11 rfl (by decide) tw5_151 rfl dX11_readWord_55 hf (fun v55 hf => ?_)
        refine r_iconst (v := 1) C dX11_readWord_58 ?_
        refine r_iadd C dX11_readWord_59 ?_
        refine r_putI (k := 7) C hw shM_0 ltM_0 cO11 rfl (by decide) tw5_151 rfl rfl rfl dX11_readWord_60 hf (fun S60 H locs hf hw => ?_)
        exact (w_X11_readWord_63 l hinj hZ C out (f_X11_readWord_10 k76 N) ih N) S60 H locs ls hf hw (lv_sub hl [0] rfl)
set_option maxRecDepth 100000 in
set_option maxHeartbeats 4000000 in
theorem c_X11_readWord (l : Launch) (X : XT) (hinj : XInj X nM) (hZ : ZOK (Zm X)) (N : Nat) (S : S2) (out : S2) (hf : f_X11_readWord N S = some out) : MV l X shM nM (Zm X) yX11_readWord cX11_readWord 1 none rmX11_readWord [.ref (X.2.2 0)] S out := by
  refine met_V (own := RX11) (by decide) rfl hinj hZ (Nat.le_of_ble_eq_true rfl) (fun p e s m args below meth c C ls H locs hw hl => ?_)
  unfold f_X11_readWord at hf
  have hl : lv_has ls 1 [(0, .ref (X.2.2 0))] := hl
  refine lv_aload_n C.1.1 C.1.2.1 dX11_readWord_0 rfl (lv_at hl 0 rfl) ?_
  refine lv_lconst (v := 0) C.1.1 C.1.2.1 dX11_readWord_1 (by decide) ?_
  refine r_putL (k := 9) C hw shM_0 ltM_0 cO11 rfl (by decide) tw5_153 rfl rfl rfl dX11_readWord_2 hf (fun S2 H locs hf hw => ?_)
  refine lv_aload_n C.1.1 C.1.2.1 dX11_readWord_5 rfl (lv_at hl 0 rfl) ?_
  refine r_iconst (v := 0) C dX11_readWord_6 ?_
  refine r_putI (k := 7) C hw shM_0 ltM_0 cO11 rfl (by decide) tw5_151 rfl rfl rfl dX11_readWord_7 hf (fun S7 H locs hf hw => ?_)
  exact (w_X11_readWord_10 l hinj hZ C out (f_X11_readWord_76 N) (w_X11_readWord_76 l hinj hZ C out N) N) S7 H locs ls hf hw (lv_sub hl [0] rfl)
def f_X11_readNumber_138 (N : Nat) (y0 : Int) (S : S2) : Option (S2) := uI S 0 4 y0 fun S138 => rV S138
def f_X11_readNumber_120 (N : Nat) (x1 : Int) (y0 : Int) (S : S2) : Option (S2) := uI S 0 6 y0 fun S120 => bI (f_X11_in N S120 x1 1 3) fun v127 S127 => cI v127 0 (if v127 = 0 then (f_X11_readNumber_138 N) 4 S127 else (f_X11_readNumber_138 N) 2 S127)
def f_X11_readNumber_100 (N : Nat) (x1 : Int) (S : S2) : Option (S2) := gI S 0 10 fun v102 => cI v102 0 (if v102 = 0 then gI S 0 6 fun v117 => (f_X11_readNumber_120 N) x1 v117 S else gI S 0 6 fun v109 => (f_X11_readNumber_120 N) x1 (-v109) S)
def f_X11_readNumber_81 (k46 : Int → S2 → Option (S2)) (N : Nat) (x1 : Int) (y0 : Int) (S : S2) : Option (S2) := uI S 0 6 y0 fun S81 => gI S81 0 3 fun v89 => uI S81 0 3 (v89 + 1) fun S94 => k46 (x1 + 1) S94
def f_X11_readNumber_46 (k100 : Int → S2 → Option (S2)) : Nat → Int → S2 → Option (S2)
  | 0, _, _ => none
  | N + 1, x1, S => bI (f_X11_here N S) fun v47 S47 => bI (f_X11_isDigit N S47 v47) fun v50 S50 => cI v50 0 (if v50 = 0 then k100 x1 S50 else cI x1 3 (if 3 ≤ x1 then (f_X11_readNumber_81 (f_X11_readNumber_46 k100 N) N) x1 0 S50 else gI S50 0 6 fun v65 => bI (f_X11_here N S50) fun v70 S70 => (f_X11_readNumber_81 (f_X11_readNumber_46 k100 N) N) x1 (((10 * v65) + v70) - 48) S70))
def f_X11_readNumber_35 (N : Nat) (y0 : Int) (y1 : Int) (S : S2) : Option (S2) := uI S 0 3 (y1 + y0) fun S36 => uI S36 0 6 0 fun S43 => (f_X11_readNumber_46 (f_X11_readNumber_100 N) N) 0 S43
def f_X11_readNumber_15 (N : Nat) (y0 : Int) (S : S2) : Option (S2) := uZ S 0 10 y0 fun S15 => gI S15 0 3 fun v20 => gI S15 0 10 fun v24 => cI v24 0 (if v24 = 0 then (f_X11_readNumber_35 N) 0 v20 S15 else (f_X11_readNumber_35 N) 1 v20 S15)
def f_X11_readNumber (N : Nat) (S : S2) : Option (S2) := bI (f_X11_here N S) fun v2 S2 => cI v2 45 (if v2 = 45 then (f_X11_readNumber_15 N) 1 S2 else (f_X11_readNumber_15 N) 0 S2)
abbrev rmX11_readNumber : Room := { frames := 1, cells := 0, slots := 0, locals := 22 }
theorem hd_X11_readNumber : yX11_readNumber.cls ≠ "java/lang/invoke/MethodHandle" ∧ yX11_readNumber.cls ≠ "java/lang/invoke/VarHandle" ∧ (parseMethodDescriptor yX11_readNumber.desc).map (fun d => d.parameters.length) = some 0 := by decide +kernel
set_option maxRecDepth 100000 in
set_option maxHeartbeats 4000000 in
theorem w_X11_readNumber_138 {p : Program} (l : Launch) {e : Env} {s : State} {m : MethodId} {args : Array Value} {below : List Frame} {meth : Method} {c : Code} {X : XT} (hinj : XInj X nM) (hZ : ZOK (Zm X)) (C : CX p s m args meth c cX11_readNumber 2 RX11 none X nM (Zm X)) (out : S2) : ∀ (N : Nat), ∀ (y0 : Int) (S : S2) (H : Heap) (locs : List Loc) (ls : Array Slot), f_X11_readNumber_138 N y0 S = some out → WH X shM nM s S H locs → lv_has ls 2 [] → W p l e rmX11_readNumber s m args below meth c H locs 0 0 (QV X shM nM s args below out) (F0 m 138 ls [.int (iz y0), .ref (X.2.2 0)]) := by
  intro N y0 S H locs ls hf hw hl
  unfold f_X11_readNumber_138 at hf
  refine r_putI (k := 4) C hw shM_0 ltM_0 cO11 rfl (by decide) tw5_148 rfl rfl rfl dX11_readNumber_138 hf (fun S138 H locs hf hw => ?_)
  exact r_retV C hw dX11_readNumber_141 hf
set_option maxRecDepth 100000 in
set_option maxHeartbeats 4000000 in
theorem w_X11_readNumber_120 {p : Program} (l : Launch) {e : Env} {s : State} {m : MethodId} {args : Array Value} {below : List Frame} {meth : Method} {c : Code} {X : XT} (hinj : XInj X nM) (hZ : ZOK (Zm X)) (C : CX p s m args meth c cX11_readNumber 2 RX11 none X nM (Zm X)) (out : S2) : ∀ (N : Nat), ∀ (x1 : Int) (y0 : Int) (S : S2) (H : Heap) (locs : List Loc) (ls : Array Slot), f_X11_readNumber_120 N x1 y0 S = some out → WH X shM nM s S H locs → lv_has ls 2 [(0, .ref (X.2.2 0)), (1, .int (iz x1))] → W p l e rmX11_readNumber s m args below meth c H locs 0 0 (QV X shM nM s args below out) (F0 m 120 ls [.int (iz y0), .ref (X.2.2 0)]) := by
  intro N x1 y0 S H locs ls hf hw hl
  unfold f_X11_readNumber_120 at hf
  refine r_putI (k := 6) C hw shM_0 ltM_0 cO11 rfl (by decide) tw5_150 rfl rfl rfl dX11_readNumber_120 hf (fun S120 H locs hf hw => ?_)
  refine lv_aload_n C.1.1 C.1.2.1 dX11_readNumber_123 rfl (lv_at hl 0 rfl) ?_
  refine lv_iload_n C.1.1 C.1.2.1 dX11_readNumber_124 rfl (lv_at hl 1 rfl) ?_
  refine r_iconst (v := 1) C dX11_readNumber_125 ?_
  refine r_iconst (v := 3) C dX11_readNumber_126 ?_
  refine r_scallI (As := [.int (iz x1), .int (iz 1), .int (iz 3)]) (rest := [.ref (X.2.2 0)]) (rm := rmX11_in) C hw tw6_77 tw6_78 tw1_12 tw6_79 hd_X11_in rfl ⟨⟨rfl, rfl⟩, Nat.le_of_ble_eq_true rfl, Nat.le_of_ble_eq_true rfl⟩ hl.1 rfl (Nat.le_of_ble_eq_true rfl) dX11_readNumber_127 hf (fun o ho => c_X11_in l X hinj hZ N S120 x1 1 3 o ho) (fun v127 S127 H locs hf hw => ?_)
  refine r_if_eq C (tgt := 137) dX11_readNumber_130 (by decide) hf (fun hf => ?_) (fun hf => ?_)
  · refine r_iconst (v := 4) C dX11_readNumber_137 ?_
    exact (w_X11_readNumber_138 l hinj hZ C out N) 4 S127 H locs ls hf hw (lv_sub hl [] rfl)
  · refine r_iconst (v := 2) C dX11_readNumber_133 ?_
    refine lv_goto (tgt := 138) C.1.1 C.1.2.1 dX11_readNumber_134 (by decide) ?_
    exact (w_X11_readNumber_138 l hinj hZ C out N) 2 S127 H locs ls hf hw (lv_sub hl [] rfl)
set_option maxRecDepth 100000 in
set_option maxHeartbeats 4000000 in
theorem w_X11_readNumber_100 {p : Program} (l : Launch) {e : Env} {s : State} {m : MethodId} {args : Array Value} {below : List Frame} {meth : Method} {c : Code} {X : XT} (hinj : XInj X nM) (hZ : ZOK (Zm X)) (C : CX p s m args meth c cX11_readNumber 2 RX11 none X nM (Zm X)) (out : S2) : ∀ (N : Nat), ∀ (x1 : Int) (S : S2) (H : Heap) (locs : List Loc) (ls : Array Slot), f_X11_readNumber_100 N x1 S = some out → WH X shM nM s S H locs → lv_has ls 2 [(0, .ref (X.2.2 0)), (1, .int (iz x1))] → W p l e rmX11_readNumber s m args below meth c H locs 0 0 (QV X shM nM s args below out) (F0 m 100 ls []) := by
  intro N x1 S H locs ls hf hw hl
  unfold f_X11_readNumber_100 at hf
  refine lv_aload_n C.1.1 C.1.2.1 dX11_readNumber_100 rfl (lv_at hl 0 rfl) ?_
  refine lv_aload_n C.1.1 C.1.2.1 dX11_readNumber_101 rfl (lv_at hl 0 rfl) ?_
  refine r_getI (k := 10) C hw shM_0 ltM_0 cO11 rfl (by decide) tw5_154 rfl dX11_readNumber_102 hf (fun v102 hf => ?_)
  refine r_if_eq C (tgt := 116) dX11_readNumber_105 (by decide) hf (fun hf => ?_) (fun hf => ?_)
  · refine lv_aload_n C.1.1 C.1.2.1 dX11_readNumber_116 rfl (lv_at hl 0 rfl) ?_
    refine r_getI (k := 6) C hw shM_0 ltM_0 cO11 rfl (by decide) tw5_150 rfl dX11_readNumber_117 hf (fun v117 hf => ?_)
    exact (w_X11_readNumber_120 l hinj hZ C out N) x1 v117 S H locs ls hf hw (lv_sub hl [0, 1] rfl)
  · refine lv_aload_n C.1.1 C.1.2.1 dX11_readNumber_108 rfl (lv_at hl 0 rfl) ?_
    refine r_getI (k := 6) C hw shM_0 ltM_0 cO11 rfl (by decide) tw5_150 rfl dX11_readNumber_109 hf (fun v109 hf => ?_)
    refine r_ineg C dX11_readNumber_112 ?_
    refine lv_goto (tgt := 120) C.1.1 C.1.2.1 dX11_readNumber_113 (by decide) ?_
    exact (w_X11_readNumber_120 l hinj hZ C out N) x1 (-v109) S H locs ls hf hw (lv_sub hl [0, 1] rfl)
set_option maxRecDepth 100000 in
set_option maxHeartbeats 4000000 in
theorem w_X11_readNumber_81 {p : Program} (l : Launch) {e : Env} {s : State} {m : MethodId} {args : Array Value} {below : List Frame} {meth : Method} {c : Code} {X : XT} (hinj : XInj X nM) (hZ : ZOK (Zm X)) (C : CX p s m args meth c cX11_readNumber 2 RX11 none X nM (Zm X)) (out : S2) (k46 : Int → S2 → Option (S2)) (hk46 : ∀ (x1 : Int) (S : S2) (H : Heap) (locs : List Loc) (ls : Array Slot), k46 x1 S = some out → WH X shM nM s S H locs → lv_has ls 2 [(0, .ref (X.2.2 0)), (1, .int (iz x1))] → W p l e rmX11_readNumber s m args below meth c H locs 0 0 (QV X shM nM s args below out) (F0 m 46 ls [])) : ∀ (N : Nat), ∀ (x1 : Int) (y0 : Int) (S : S2) (H : Heap) (locs : List Loc) (ls : Array Slot), f_X11_readNumber_81 k46 N x1 y0 S = some out → WH X shM nM s S H locs → lv_has ls 2 [(0, .ref (X.2.2 0)), (1, .int (iz x1))] → W p l e rmX11_readNumber s m args below meth c H locs 0 0 (QV X shM nM s args below out) (F0 m 81 ls [.int (iz y0), .ref (X.2.2 0)]) := by
  intro N x1 y0 S H locs ls hf hw hl
  unfold f_X11_readNumber_81 at hf
  refine r_putI (k := 6) C hw shM_0 ltM_0 cO11 rfl (by decide) tw5_150 rfl rfl rfl dX11_readNumber_81 hf (fun S81 H locs hf hw => ?_)
  refine lv_iinc (v := iz (x1 + 1)) (lv' := [(1, .int (iz (x1 + 1))), (0, .ref (X.2.2 0))]) C.1.1 C.1.2.1 dX11_readNumber_84 hl (k := 1) rfl (iz_add _ _) (by decide) rfl (fun ls hl => ?_)
  refine lv_aload_n C.1.1 C.1.2.1 dX11_readNumber_87 rfl (lv_at hl 1 rfl) ?_
  refine lv_dup C.1.1 C.1.2.1 dX11_readNumber_88 rfl ?_
  refine r_getI (k := 3) C hw shM_0 ltM_0 cO11 rfl (by decide) tw5_147 rfl dX11_readNumber_89 hf (fun v89 hf => ?_)
  refine r_iconst (v := 1) C dX11_readNumber_92 ?_
  refine r_iadd C dX11_readNumber_93 ?_
  refine r_putI (k := 3) C hw shM_0 ltM_0 cO11 rfl (by decide) tw5_147 rfl rfl rfl dX11_readNumber_94 hf (fun S94 H locs hf hw => ?_)
  refine lv_goto (tgt := 46) C.1.1 C.1.2.1 dX11_readNumber_97 (by decide) ?_
  exact hk46 (x1 + 1) S94 H locs ls hf hw (lv_sub hl [1, 0] rfl)
set_option maxRecDepth 100000 in
set_option maxHeartbeats 4000000 in
theorem w_X11_readNumber_46 {p : Program} (l : Launch) {e : Env} {s : State} {m : MethodId} {args : Array Value} {below : List Frame} {meth : Method} {c : Code} {X : XT} (hinj : XInj X nM) (hZ : ZOK (Zm X)) (C : CX p s m args meth c cX11_readNumber 2 RX11 none X nM (Zm X)) (out : S2) (k100 : Int → S2 → Option (S2)) (hk100 : ∀ (x1 : Int) (S : S2) (H : Heap) (locs : List Loc) (ls : Array Slot), k100 x1 S = some out → WH X shM nM s S H locs → lv_has ls 2 [(0, .ref (X.2.2 0)), (1, .int (iz x1))] → W p l e rmX11_readNumber s m args below meth c H locs 0 0 (QV X shM nM s args below out) (F0 m 100 ls [])) : ∀ (N : Nat), ∀ (x1 : Int) (S : S2) (H : Heap) (locs : List Loc) (ls : Array Slot), f_X11_readNumber_46 k100 N x1 S = some out → WH X shM nM s S H locs → lv_has ls 2 [(0, .ref (X.2.2 0)), (1, .int (iz x1))] → W p l e rmX11_readNumber s m args below meth c H locs 0 0 (QV X shM nM s args below out) (F0 m 46 ls []) := by
  intro N
  induction N with
  | zero => intro x1 S H locs ls hf hw hl; cases hf
  | succ N ih =>
    intro x1 S H locs ls hf hw hl
    rw [f_X11_readNumber_46.eq_2] at hf
    refine lv_aload_n C.1.1 C.1.2.1 dX11_readNumber_46 rfl (lv_at hl 0 rfl) ?_
    refine r_callI (As := []) (rest := []) (rm := rmX11_here) C hw shM_0 ltM_0 cO11 tw6_96 tw6_98 tp_48 tw1_12 tw6_99 hd_X11_here rfl ⟨⟨rfl, rfl⟩, Nat.le_of_ble_eq_true rfl, Nat.le_of_ble_eq_true rfl⟩ hl.1 rfl (Nat.le_of_ble_eq_true rfl) dX11_readNumber_47 hf (fun o ho => c_X11_here l X hinj hZ N S o ho) (fun v47 S47 H locs hf hw => ?_)
    refine r_scallI (As := [.int (iz v47)]) (rest := []) (rm := rmX11_isDigit) C hw tw6_109 tw6_110 tw1_12 tw6_111 hd_X11_isDigit rfl ⟨⟨rfl, rfl⟩, Nat.le_of_ble_eq_true rfl, Nat.le_of_ble_eq_true rfl⟩ hl.1 rfl (Nat.le_of_ble_eq_true rfl) dX11_readNumber_50 hf (fun o ho => c_X11_isDigit l X hinj hZ N S47 v47 o ho) (fun v50 S50 H locs hf hw => ?_)
    refine r_if_eq C (tgt := 100) dX11_readNumber_53 (by decide) hf (fun hf => ?_) (fun hf => ?_)
    · exact hk100 x1 S50 H locs ls hf hw (lv_sub hl [0, 1] rfl)
    · refine lv_aload_n C.1.1 C.1.2.1 dX11_readNumber_56 rfl (lv_at hl 0 rfl) ?_
      refine lv_iload_n C.1.1 C.1.2.1 dX11_readNumber_57 rfl (lv_at hl 1 rfl) ?_
      refine r_iconst (v := 3) C dX11_readNumber_58 ?_
      refine r_icmp_ge C (tgt := 80) dX11_readNumber_59 (by decide) hf (fun hf => ?_) (fun hf => ?_)
      · refine r_iconst (v := 0) C dX11_readNumber_80 ?_
        exact (w_X11_readNumber_81 l hinj hZ C out (f_X11_readNumber_46 k100 N) ih N) x1 0 S50 H locs ls hf hw (lv_sub hl [0, 1] rfl)
      · refine r_bipush (v := 10) C dX11_readNumber_62 (by decide) ?_
        refine lv_aload_n C.1.1 C.1.2.1 dX11_readNumber_64 rfl (lv_at hl 0 rfl) ?_
        refine r_getI (k := 6) C hw shM_0 ltM_0 cO11 rfl (by decide) tw5_150 rfl dX11_readNumber_65 hf (fun v65 hf => ?_)
        refine r_imul C dX11_readNumber_68 ?_
        refine lv_aload_n C.1.1 C.1.2.1 dX11_readNumber_69 rfl (lv_at hl 0 rfl) ?_
        refine r_callI (As := []) (rest := [.int (iz (10 * v65)), .ref (X.2.2 0)]) (rm := rmX11_here) C hw shM_0 ltM_0 cO11 tw6_96 tw6_98 tp_48 tw1_12 tw6_99 hd_X11_here rfl ⟨⟨rfl, rfl⟩, Nat.le_of_ble_eq_true rfl, Nat.le_of_ble_eq_true rfl⟩ hl.1 rfl (Nat.le_of_ble_eq_true rfl) dX11_readNumber_70 hf (fun o ho => c_X11_here l X hinj hZ N S50 o ho) (fun v70 S70 H locs hf hw => ?_)
        refine r_iadd C dX11_readNumber_73 ?_
        refine r_bipush (v := 48) C dX11_readNumber_74 (by decide) ?_
        refine r_isub C dX11_readNumber_76 ?_
        refine lv_goto (tgt := 81) C.1.1 C.1.2.1 dX11_readNumber_77 (by decide) ?_
        exact (w_X11_readNumber_81 l hinj hZ C out (f_X11_readNumber_46 k100 N) ih N) x1 (((10 * v65) + v70) - 48) S70 H locs ls hf hw (lv_sub hl [0, 1] rfl)
set_option maxRecDepth 100000 in
set_option maxHeartbeats 4000000 in
theorem w_X11_readNumber_35 {p : Program} (l : Launch) {e : Env} {s : State} {m : MethodId} {args : Array Value} {below : List Frame} {meth : Method} {c : Code} {X : XT} (hinj : XInj X nM) (hZ : ZOK (Zm X)) (C : CX p s m args meth c cX11_readNumber 2 RX11 none X nM (Zm X)) (out : S2) : ∀ (N : Nat), ∀ (y0 : Int) (y1 : Int) (S : S2) (H : Heap) (locs : List Loc) (ls : Array Slot), f_X11_readNumber_35 N y0 y1 S = some out → WH X shM nM s S H locs → lv_has ls 2 [(0, .ref (X.2.2 0))] → W p l e rmX11_readNumber s m args below meth c H locs 0 0 (QV X shM nM s args below out) (F0 m 35 ls [.int (iz y0), .int (iz y1), .ref (X.2.2 0)]) := by
  intro N y0 y1 S H locs ls hf hw hl
  unfold f_X11_readNumber_35 at hf
  refine r_iadd C dX11_readNumber_35 ?_
  refine r_putI (k := 3) C hw shM_0 ltM_0 cO11 rfl (by decide) tw5_147 rfl rfl rfl dX11_readNumber_36 hf (fun S36 H locs hf hw => ?_)
  refine r_iconst (v := 0) C dX11_readNumber_39 ?_
  refine lv_istore_n (lv' := [(1, .int (iz 0)), (0, .ref (X.2.2 0))]) C.1.1 C.1.2.1 dX11_readNumber_40 rfl hl (by decide) rfl (fun ls hl => ?_)
  refine lv_aload_n C.1.1 C.1.2.1 dX11_readNumber_41 rfl (lv_at hl 1 rfl) ?_
  refine r_iconst (v := 0) C dX11_readNumber_42 ?_
  refine r_putI (k := 6) C hw shM_0 ltM_0 cO11 rfl (by decide) tw5_150 rfl rfl rfl dX11_readNumber_43 hf (fun S43 H locs hf hw => ?_)
  exact (w_X11_readNumber_46 l hinj hZ C out (f_X11_readNumber_100 N) (w_X11_readNumber_100 l hinj hZ C out N) N) 0 S43 H locs ls hf hw (lv_sub hl [1, 0] rfl)
set_option maxRecDepth 100000 in
set_option maxHeartbeats 4000000 in
theorem w_X11_readNumber_15 {p : Program} (l : Launch) {e : Env} {s : State} {m : MethodId} {args : Array Value} {below : List Frame} {meth : Method} {c : Code} {X : XT} (hinj : XInj X nM) (hZ : ZOK (Zm X)) (C : CX p s m args meth c cX11_readNumber 2 RX11 none X nM (Zm X)) (out : S2) : ∀ (N : Nat), ∀ (y0 : Int) (S : S2) (H : Heap) (locs : List Loc) (ls : Array Slot), f_X11_readNumber_15 N y0 S = some out → WH X shM nM s S H locs → lv_has ls 2 [(0, .ref (X.2.2 0))] → W p l e rmX11_readNumber s m args below meth c H locs 0 0 (QV X shM nM s args below out) (F0 m 15 ls [.int (iz y0), .ref (X.2.2 0)]) := by
  intro N y0 S H locs ls hf hw hl
  unfold f_X11_readNumber_15 at hf
  refine r_putZ (k := 10) C hw shM_0 ltM_0 cO11 rfl (by decide) tw5_154 rfl rfl rfl dX11_readNumber_15 hf (fun S15 H locs hf hw => ?_)
  refine lv_aload_n C.1.1 C.1.2.1 dX11_readNumber_18 rfl (lv_at hl 0 rfl) ?_
  refine lv_dup C.1.1 C.1.2.1 dX11_readNumber_19 rfl ?_
  refine r_getI (k := 3) C hw shM_0 ltM_0 cO11 rfl (by decide) tw5_147 rfl dX11_readNumber_20 hf (fun v20 hf => ?_)
  refine lv_aload_n C.1.1 C.1.2.1 dX11_readNumber_23 rfl (lv_at hl 0 rfl) ?_
  refine r_getI (k := 10) C hw shM_0 ltM_0 cO11 rfl (by decide) tw5_154 rfl dX11_readNumber_24 hf (fun v24 hf => ?_)
  refine r_if_eq C (tgt := 34) dX11_readNumber_27 (by decide) hf (fun hf => ?_) (fun hf => ?_)
  · refine r_iconst (v := 0) C dX11_readNumber_34 ?_
    exact (w_X11_readNumber_35 l hinj hZ C out N) 0 v20 S15 H locs ls hf hw (lv_sub hl [0] rfl)
  · refine r_iconst (v := 1) C dX11_readNumber_30 ?_
    refine lv_goto (tgt := 35) C.1.1 C.1.2.1 dX11_readNumber_31 (by decide) ?_
    exact (w_X11_readNumber_35 l hinj hZ C out N) 1 v20 S15 H locs ls hf hw (lv_sub hl [0] rfl)
set_option maxRecDepth 100000 in
set_option maxHeartbeats 4000000 in
theorem c_X11_readNumber (l : Launch) (X : XT) (hinj : XInj X nM) (hZ : ZOK (Zm X)) (N : Nat) (S : S2) (out : S2) (hf : f_X11_readNumber N S = some out) : MV l X shM nM (Zm X) yX11_readNumber cX11_readNumber 2 none rmX11_readNumber [.ref (X.2.2 0)] S out := by
  refine met_V (own := RX11) (by decide) rfl hinj hZ (Nat.le_of_ble_eq_true rfl) (fun p e s m args below meth c C ls H locs hw hl => ?_)
  unfold f_X11_readNumber at hf
  have hl : lv_has ls 2 [(0, .ref (X.2.2 0))] := hl
  refine lv_aload_n C.1.1 C.1.2.1 dX11_readNumber_0 rfl (lv_at hl 0 rfl) ?_
  refine lv_aload_n C.1.1 C.1.2.1 dX11_readNumber_1 rfl (lv_at hl 0 rfl) ?_
  refine r_callI (As := []) (rest := [.ref (X.2.2 0)]) (rm := rmX11_here) C hw shM_0 ltM_0 cO11 tw6_96 tw6_98 tp_48 tw1_12 tw6_99 hd_X11_here rfl ⟨⟨rfl, rfl⟩, Nat.le_of_ble_eq_true rfl, Nat.le_of_ble_eq_true rfl⟩ hl.1 rfl (Nat.le_of_ble_eq_true rfl) dX11_readNumber_2 hf (fun o ho => c_X11_here l X hinj hZ N S o ho) (fun v2 S2 H locs hf hw => ?_)
  refine r_bipush (v := 45) C dX11_readNumber_5 (by decide) ?_
  refine r_icmp_ne C (tgt := 14) dX11_readNumber_7 (by decide) hf (fun hf => ?_) (fun hf => ?_)
  · refine r_iconst (v := 0) C dX11_readNumber_14 ?_
    exact (w_X11_readNumber_15 l hinj hZ C out N) 0 S2 H locs ls hf hw (lv_sub hl [0] rfl)
  · refine r_iconst (v := 1) C dX11_readNumber_10 ?_
    refine lv_goto (tgt := 15) C.1.1 C.1.2.1 dX11_readNumber_11 (by decide) ?_
    exact (w_X11_readNumber_15 l hinj hZ C out N) 1 S2 H locs ls hf hw (lv_sub hl [0] rfl)
def f_X11_next_104 (N : Nat) (y0 : Int) (S : S2) : Option (S2) := uI S 0 4 y0 fun S104 => rV S104
def f_X11_next_75 (N : Nat) (S : S2) : Option (S2) := bV (f_X11_readNumber N S) fun S76 => rV S76
def f_X11_next_22 (N : Nat) (S : S2) : Option (S2) := gI S 0 3 fun v24 => uI S 0 5 v24 fun S27 => bI (f_X11_here N S27) fun v31 S31 => cI v31 (-1) (if v31 = (-1) then uI S31 0 4 0 fun S42 => rV S42 else bI (f_X11_isLetter N S31 v31) fun v49 S49 => cI v49 0 (if v49 = 0 then bI (f_X11_isDigit N S49 v31) fun v63 S63 => cI v63 0 (if v63 = 0 then cI v31 45 (if v31 = 45 then (f_X11_next_75 N) S63 else gI S63 0 3 fun v84 => uI S63 0 3 (v84 + 1) fun S89 => cI v31 59 (if v31 = 59 then (f_X11_next_104 N) 3 S89 else (f_X11_next_104 N) 4 S89)) else (f_X11_next_75 N) S63) else bV (f_X11_readWord N S49) fun S56 => rV S56))
def f_X11_next_0 (k22 : S2 → Option (S2)) : Nat → S2 → Option (S2)
  | 0, _ => none
  | N + 1, S => bI (f_X11_here N S) fun v1 S1 => cI v1 32 (if v1 = 32 then gI S1 0 3 fun v11 => uI S1 0 3 (v11 + 1) fun S16 => (f_X11_next_0 k22 N) S16 else k22 S1)
def f_X11_next (N : Nat) (S : S2) : Option (S2) := (f_X11_next_0 (f_X11_next_22 N) N) S
abbrev rmX11_next : Room := { frames := 2, cells := 0, slots := 0, locals := 43 }
theorem hd_X11_next : yX11_next.cls ≠ "java/lang/invoke/MethodHandle" ∧ yX11_next.cls ≠ "java/lang/invoke/VarHandle" ∧ (parseMethodDescriptor yX11_next.desc).map (fun d => d.parameters.length) = some 0 := by decide +kernel
set_option maxRecDepth 100000 in
set_option maxHeartbeats 4000000 in
theorem w_X11_next_104 {p : Program} (l : Launch) {e : Env} {s : State} {m : MethodId} {args : Array Value} {below : List Frame} {meth : Method} {c : Code} {X : XT} (hinj : XInj X nM) (hZ : ZOK (Zm X)) (C : CX p s m args meth c cX11_next 2 RX11 none X nM (Zm X)) (out : S2) : ∀ (N : Nat), ∀ (y0 : Int) (S : S2) (H : Heap) (locs : List Loc) (ls : Array Slot), f_X11_next_104 N y0 S = some out → WH X shM nM s S H locs → lv_has ls 2 [] → W p l e rmX11_next s m args below meth c H locs 0 0 (QV X shM nM s args below out) (F0 m 104 ls [.int (iz y0), .ref (X.2.2 0)]) := by
  intro N y0 S H locs ls hf hw hl
  unfold f_X11_next_104 at hf
  refine r_putI (k := 4) C hw shM_0 ltM_0 cO11 rfl (by decide) tw5_148 rfl rfl rfl dX11_next_104 hf (fun S104 H locs hf hw => ?_)
  exact r_retV C hw dX11_next_107 hf
set_option maxRecDepth 100000 in
set_option maxHeartbeats 4000000 in
theorem w_X11_next_75 {p : Program} (l : Launch) {e : Env} {s : State} {m : MethodId} {args : Array Value} {below : List Frame} {meth : Method} {c : Code} {X : XT} (hinj : XInj X nM) (hZ : ZOK (Zm X)) (C : CX p s m args meth c cX11_next 2 RX11 none X nM (Zm X)) (out : S2) : ∀ (N : Nat), ∀ (S : S2) (H : Heap) (locs : List Loc) (ls : Array Slot), f_X11_next_75 N S = some out → WH X shM nM s S H locs → lv_has ls 2 [(0, .ref (X.2.2 0))] → W p l e rmX11_next s m args below meth c H locs 0 0 (QV X shM nM s args below out) (F0 m 75 ls []) := by
  intro N S H locs ls hf hw hl
  unfold f_X11_next_75 at hf
  refine lv_aload_n C.1.1 C.1.2.1 dX11_next_75 rfl (lv_at hl 0 rfl) ?_
  refine r_callV (As := []) (rest := []) (rm := rmX11_readNumber) C hw shM_0 ltM_0 cO11 tw6_112 tw6_114 tp_50 tw1_12 tw6_115 hd_X11_readNumber rfl ⟨⟨rfl, rfl⟩, Nat.le_of_ble_eq_true rfl, Nat.le_of_ble_eq_true rfl⟩ hl.1 rfl (Nat.le_of_ble_eq_true rfl) dX11_next_76 hf (fun o ho => c_X11_readNumber l X hinj hZ N S o ho) (fun S76 H locs hf hw => ?_)
  refine lv_goto (tgt := 107) C.1.1 C.1.2.1 dX11_next_79 (by decide) ?_
  exact r_retV C hw dX11_next_107 hf
set_option maxRecDepth 100000 in
set_option maxHeartbeats 4000000 in
theorem w_X11_next_22 {p : Program} (l : Launch) {e : Env} {s : State} {m : MethodId} {args : Array Value} {below : List Frame} {meth : Method} {c : Code} {X : XT} (hinj : XInj X nM) (hZ : ZOK (Zm X)) (C : CX p s m args meth c cX11_next 2 RX11 none X nM (Zm X)) (out : S2) : ∀ (N : Nat), ∀ (S : S2) (H : Heap) (locs : List Loc) (ls : Array Slot), f_X11_next_22 N S = some out → WH X shM nM s S H locs → lv_has ls 2 [(0, .ref (X.2.2 0))] → W p l e rmX11_next s m args below meth c H locs 0 0 (QV X shM nM s args below out) (F0 m 22 ls []) := by
  intro N S H locs ls hf hw hl
  unfold f_X11_next_22 at hf
  refine lv_aload_n C.1.1 C.1.2.1 dX11_next_22 rfl (lv_at hl 0 rfl) ?_
  refine lv_aload_n C.1.1 C.1.2.1 dX11_next_23 rfl (lv_at hl 0 rfl) ?_
  refine r_getI (k := 3) C hw shM_0 ltM_0 cO11 rfl (by decide) tw5_147 rfl dX11_next_24 hf (fun v24 hf => ?_)
  refine r_putI (k := 5) C hw shM_0 ltM_0 cO11 rfl (by decide) tw5_149 rfl rfl rfl dX11_next_27 hf (fun S27 H locs hf hw => ?_)
  refine lv_aload_n C.1.1 C.1.2.1 dX11_next_30 rfl (lv_at hl 0 rfl) ?_
  refine r_callI (As := []) (rest := []) (rm := rmX11_here) C hw shM_0 ltM_0 cO11 tw6_96 tw6_98 tp_48 tw1_12 tw6_99 hd_X11_here rfl ⟨⟨rfl, rfl⟩, Nat.le_of_ble_eq_true rfl, Nat.le_of_ble_eq_true rfl⟩ hl.1 rfl (Nat.le_of_ble_eq_true rfl) dX11_next_31 hf (fun o ho => c_X11_here l X hinj hZ N S27 o ho) (fun v31 S31 H locs hf hw => ?_)
  refine lv_istore_n (lv' := [(1, .int (iz v31)), (0, .ref (X.2.2 0))]) C.1.1 C.1.2.1 dX11_next_34 rfl hl (by decide) rfl (fun ls hl => ?_)
  refine lv_iload_n C.1.1 C.1.2.1 dX11_next_35 rfl (lv_at hl 0 rfl) ?_
  refine r_iconst (v := (-1)) C dX11_next_36 ?_
  refine r_icmp_ne C (tgt := 48) dX11_next_37 (by decide) hf (fun hf => ?_) (fun hf => ?_)
  · refine lv_iload_n C.1.1 C.1.2.1 dX11_next_48 rfl (lv_at hl 0 rfl) ?_
    refine r_scallI (As := [.int (iz v31)]) (rest := []) (rm := rmX11_isLetter) C hw tw6_100 tw6_101 tw1_12 tw6_102 hd_X11_isLetter rfl ⟨⟨rfl, rfl⟩, Nat.le_of_ble_eq_true rfl, Nat.le_of_ble_eq_true rfl⟩ hl.1 rfl (Nat.le_of_ble_eq_true rfl) dX11_next_49 hf (fun o ho => c_X11_isLetter l X hinj hZ N S31 v31 o ho) (fun v49 S49 H locs hf hw => ?_)
    refine r_if_eq C (tgt := 62) dX11_next_52 (by decide) hf (fun hf => ?_) (fun hf => ?_)
    · refine lv_iload_n C.1.1 C.1.2.1 dX11_next_62 rfl (lv_at hl 0 rfl) ?_
      refine r_scallI (As := [.int (iz v31)]) (rest := []) (rm := rmX11_isDigit) C hw tw6_109 tw6_110 tw1_12 tw6_111 hd_X11_isDigit rfl ⟨⟨rfl, rfl⟩, Nat.le_of_ble_eq_true rfl, Nat.le_of_ble_eq_true rfl⟩ hl.1 rfl (Nat.le_of_ble_eq_true rfl) dX11_next_63 hf (fun o ho => c_X11_isDigit l X hinj hZ N S49 v31 o ho) (fun v63 S63 H locs hf hw => ?_)
      refine r_if_ne C (tgt := 75) dX11_next_66 (by decide) hf (fun hf => ?_) (fun hf => ?_)
      · exact (w_X11_next_75 l hinj hZ C out N) S63 H locs ls hf hw (lv_sub hl [1] rfl)
      · refine lv_iload_n C.1.1 C.1.2.1 dX11_next_69 rfl (lv_at hl 0 rfl) ?_
        refine r_bipush (v := 45) C dX11_next_70 (by decide) ?_
        refine r_icmp_ne C (tgt := 82) dX11_next_72 (by decide) hf (fun hf => ?_) (fun hf => ?_)
        · refine lv_aload_n C.1.1 C.1.2.1 dX11_next_82 rfl (lv_at hl 1 rfl) ?_
          refine lv_dup C.1.1 C.1.2.1 dX11_next_83 rfl ?_
          refine r_getI (k := 3) C hw shM_0 ltM_0 cO11 rfl (by decide) tw5_147 rfl dX11_next_84 hf (fun v84 hf => ?_)
          refine r_iconst (v := 1) C dX11_next_87 ?_
          refine r_iadd C dX11_next_88 ?_
          refine r_putI (k := 3) C hw shM_0 ltM_0 cO11 rfl (by decide) tw5_147 rfl rfl rfl dX11_next_89 hf (fun S89 H locs hf hw => ?_)
          refine lv_aload_n C.1.1 C.1.2.1 dX11_next_92 rfl (lv_at hl 1 rfl) ?_
          refine lv_iload_n C.1.1 C.1.2.1 dX11_next_93 rfl (lv_at hl 0 rfl) ?_
          refine r_bipush (v := 59) C dX11_next_94 (by decide) ?_
          refine r_icmp_ne C (tgt := 103) dX11_next_96 (by decide) hf (fun hf => ?_) (fun hf => ?_)
          · refine r_iconst (v := 4) C dX11_next_103 ?_
            exact (w_X11_next_104 l hinj hZ C out N) 4 S89 H locs ls hf hw (lv_sub hl [] rfl)
          · refine r_iconst (v := 3) C dX11_next_99 ?_
            refine lv_goto (tgt := 104) C.1.1 C.1.2.1 dX11_next_100 (by decide) ?_
            exact (w_X11_next_104 l hinj hZ C out N) 3 S89 H locs ls hf hw (lv_sub hl [] rfl)
        · exact (w_X11_next_75 l hinj hZ C out N) S63 H locs ls hf hw (lv_sub hl [1] rfl)
    · refine lv_aload_n C.1.1 C.1.2.1 dX11_next_55 rfl (lv_at hl 1 rfl) ?_
      refine r_callV (As := []) (rest := []) (rm := rmX11_readWord) C hw shM_0 ltM_0 cO11 tw6_103 tw6_105 tp_49 tw1_12 tw6_106 hd_X11_readWord rfl ⟨⟨rfl, rfl⟩, Nat.le_of_ble_eq_true rfl, Nat.le_of_ble_eq_true rfl⟩ hl.1 rfl (Nat.le_of_ble_eq_true rfl) dX11_next_56 hf (fun o ho => c_X11_readWord l X hinj hZ N S49 o ho) (fun S56 H locs hf hw => ?_)
      refine lv_goto (tgt := 107) C.1.1 C.1.2.1 dX11_next_59 (by decide) ?_
      exact r_retV C hw dX11_next_107 hf
  · refine lv_aload_n C.1.1 C.1.2.1 dX11_next_40 rfl (lv_at hl 1 rfl) ?_
    refine r_iconst (v := 0) C dX11_next_41 ?_
    refine r_putI (k := 4) C hw shM_0 ltM_0 cO11 rfl (by decide) tw5_148 rfl rfl rfl dX11_next_42 hf (fun S42 H locs hf hw => ?_)
    refine lv_goto (tgt := 107) C.1.1 C.1.2.1 dX11_next_45 (by decide) ?_
    exact r_retV C hw dX11_next_107 hf
set_option maxRecDepth 100000 in
set_option maxHeartbeats 4000000 in
theorem w_X11_next_0 {p : Program} (l : Launch) {e : Env} {s : State} {m : MethodId} {args : Array Value} {below : List Frame} {meth : Method} {c : Code} {X : XT} (hinj : XInj X nM) (hZ : ZOK (Zm X)) (C : CX p s m args meth c cX11_next 2 RX11 none X nM (Zm X)) (out : S2) (k22 : S2 → Option (S2)) (hk22 : ∀ (S : S2) (H : Heap) (locs : List Loc) (ls : Array Slot), k22 S = some out → WH X shM nM s S H locs → lv_has ls 2 [(0, .ref (X.2.2 0))] → W p l e rmX11_next s m args below meth c H locs 0 0 (QV X shM nM s args below out) (F0 m 22 ls [])) : ∀ (N : Nat), ∀ (S : S2) (H : Heap) (locs : List Loc) (ls : Array Slot), f_X11_next_0 k22 N S = some out → WH X shM nM s S H locs → lv_has ls 2 [(0, .ref (X.2.2 0))] → W p l e rmX11_next s m args below meth c H locs 0 0 (QV X shM nM s args below out) (F0 m 0 ls []) := by
  intro N
  induction N with
  | zero => intro S H locs ls hf hw hl; cases hf
  | succ N ih =>
    intro S H locs ls hf hw hl
    rw [f_X11_next_0.eq_2] at hf
    refine lv_aload_n C.1.1 C.1.2.1 dX11_next_0 rfl (lv_at hl 0 rfl) ?_
    refine r_callI (As := []) (rest := []) (rm := rmX11_here) C hw shM_0 ltM_0 cO11 tw6_96 tw6_98 tp_48 tw1_12 tw6_99 hd_X11_here rfl ⟨⟨rfl, rfl⟩, Nat.le_of_ble_eq_true rfl, Nat.le_of_ble_eq_true rfl⟩ hl.1 rfl (Nat.le_of_ble_eq_true rfl) dX11_next_1 hf (fun o ho => c_X11_here l X hinj hZ N S o ho) (fun v1 S1 H locs hf hw => ?_)
    refine r_bipush (v := 32) C dX11_next_4 (by decide) ?_
    refine r_icmp_ne C (tgt := 22) dX11_next_6 (by decide) hf (fun hf => ?_) (fun hf => ?_)
    · exact hk22 S1 H locs ls hf hw (lv_sub hl [0] rfl)
    · refine lv_aload_n C.1.1 C.1.2.1 dX11_next_9 rfl (lv_at hl 0 rfl) ?_
      refine lv_dup C.1.1 C.1.2.1 dX11_next_10 rfl ?_
      refine r_getI (k := 3) C hw shM_0 ltM_0 cO11 rfl (by decide) tw5_147 rfl dX11_next_11 hf (fun v11 hf => ?_)
      refine r_iconst (v := 1) C dX11_next_14 ?_
      refine r_iadd C dX11_next_15 ?_
      refine r_putI (k := 3) C hw shM_0 ltM_0 cO11 rfl (by decide) tw5_147 rfl rfl rfl dX11_next_16 hf (fun S16 H locs hf hw => ?_)
      refine lv_goto (tgt := 0) C.1.1 C.1.2.1 dX11_next_19 (by decide) ?_
      exact ih S16 H locs ls hf hw (lv_sub hl [0] rfl)
set_option maxRecDepth 100000 in
set_option maxHeartbeats 4000000 in
theorem c_X11_next (l : Launch) (X : XT) (hinj : XInj X nM) (hZ : ZOK (Zm X)) (N : Nat) (S : S2) (out : S2) (hf : f_X11_next N S = some out) : MV l X shM nM (Zm X) yX11_next cX11_next 2 none rmX11_next [.ref (X.2.2 0)] S out := by
  refine met_V (own := RX11) (by decide) rfl hinj hZ (Nat.le_of_ble_eq_true rfl) (fun p e s m args below meth c C ls H locs hw hl => ?_)
  unfold f_X11_next at hf
  have hl : lv_has ls 2 [(0, .ref (X.2.2 0))] := hl
  exact (w_X11_next_0 l hinj hZ C out (f_X11_next_22 N) (w_X11_next_22 l hinj hZ C out N) N) S H locs ls hf hw (lv_sub hl [0] rfl)
def f_X11_isWord (N : Nat) (S : S2) (a1 : Int64) : Option (Int × S2) := gI S 0 4 fun v1 => cI v1 1 (if v1 = 1 then gL S 0 9 fun v9 => cI (bz (lg_cmp v9 a1)) 0 (if (bz (lg_cmp v9 a1)) = 0 then rZ 1 S else rZ 0 S) else rZ 0 S)
abbrev rmX11_isWord : Room := { frames := 0, cells := 0, slots := 0, locals := 0 }
theorem hd_X11_isWord : yX11_isWord.cls ≠ "java/lang/invoke/MethodHandle" ∧ yX11_isWord.cls ≠ "java/lang/invoke/VarHandle" ∧ (parseMethodDescriptor yX11_isWord.desc).map (fun d => d.parameters.length) = some 1 := by decide +kernel
set_option maxRecDepth 100000 in
set_option maxHeartbeats 4000000 in
theorem c_X11_isWord (l : Launch) (X : XT) (hinj : XInj X nM) (hZ : ZOK (Zm X)) (N : Nat) (S : S2) (a1 : Int64) (out : Int × S2) (hf : f_X11_isWord N S a1 = some out) : MI l X shM nM (Zm X) yX11_isWord cX11_isWord 3 (some .boolean) rmX11_isWord [.ref (X.2.2 0), .long a1] S out := by
  refine met_I (own := RX11) (by decide) rfl hinj hZ (Nat.le_of_ble_eq_true rfl) (fun p e s m args below meth c C ls H locs hw hl => ?_)
  unfold f_X11_isWord at hf
  have hl : lv_has ls 3 [(0, .ref (X.2.2 0)), (1, .long a1)] := hl
  refine lv_aload_n C.1.1 C.1.2.1 dX11_isWord_0 rfl (lv_at hl 0 rfl) ?_
  refine r_getI (k := 4) C hw shM_0 ltM_0 cO11 rfl (by decide) tw5_148 rfl dX11_isWord_1 hf (fun v1 hf => ?_)
  refine r_iconst (v := 1) C dX11_isWord_4 ?_
  refine r_icmp_ne C (tgt := 21) dX11_isWord_5 (by decide) hf (fun hf => ?_) (fun hf => ?_)
  · refine r_iconst (v := 0) C dX11_isWord_21 ?_
    exact r_retZ C hw dX11_isWord_22 hf
  · refine lv_aload_n C.1.1 C.1.2.1 dX11_isWord_8 rfl (lv_at hl 0 rfl) ?_
    refine r_getL (k := 9) C hw shM_0 ltM_0 cO11 rfl (by decide) tw5_153 rfl dX11_isWord_9 hf (fun v9 hf => ?_)
    refine lv_lload_n C.1.1 C.1.2.1 dX11_isWord_12 rfl (lv_at hl 1 rfl) ?_
    refine r_lcmp C dX11_isWord_13 ?_
    refine r_if_ne C (tgt := 21) dX11_isWord_14 (by decide) hf (fun hf => ?_) (fun hf => ?_)
    · refine r_iconst (v := 0) C dX11_isWord_21 ?_
      exact r_retZ C hw dX11_isWord_22 hf
    · refine r_iconst (v := 1) C dX11_isWord_17 ?_
      refine lv_goto (tgt := 22) C.1.1 C.1.2.1 dX11_isWord_18 (by decide) ?_
      exact r_retZ C hw dX11_isWord_22 hf
def f_X11_bad_20 (N : Nat) (y0 : Int) (S : S2) : Option (S2) := uI S 0 8 y0 fun S20 => rV S20
def f_X11_bad (N : Nat) (S : S2) : Option (S2) := gI S 0 8 fun v2 => cI v2 (-1) (if v2 = (-1) then gI S 0 5 fun v10 => (f_X11_bad_20 N) v10 S else gI S 0 8 fun v17 => (f_X11_bad_20 N) v17 S)
abbrev rmX11_bad : Room := { frames := 0, cells := 0, slots := 0, locals := 0 }
theorem hd_X11_bad : yX11_bad.cls ≠ "java/lang/invoke/MethodHandle" ∧ yX11_bad.cls ≠ "java/lang/invoke/VarHandle" ∧ (parseMethodDescriptor yX11_bad.desc).map (fun d => d.parameters.length) = some 0 := by decide +kernel
set_option maxRecDepth 100000 in
set_option maxHeartbeats 4000000 in
theorem w_X11_bad_20 {p : Program} (l : Launch) {e : Env} {s : State} {m : MethodId} {args : Array Value} {below : List Frame} {meth : Method} {c : Code} {X : XT} (hinj : XInj X nM) (hZ : ZOK (Zm X)) (C : CX p s m args meth c cX11_bad 1 RX11 none X nM (Zm X)) (out : S2) : ∀ (N : Nat), ∀ (y0 : Int) (S : S2) (H : Heap) (locs : List Loc) (ls : Array Slot), f_X11_bad_20 N y0 S = some out → WH X shM nM s S H locs → lv_has ls 1 [] → W p l e rmX11_bad s m args below meth c H locs 0 0 (QV X shM nM s args below out) (F0 m 20 ls [.int (iz y0), .ref (X.2.2 0)]) := by
  intro N y0 S H locs ls hf hw hl
  unfold f_X11_bad_20 at hf
  refine r_putI (k := 8) C hw shM_0 ltM_0 cO11 rfl (by decide) tw5_152 rfl rfl rfl dX11_bad_20 hf (fun S20 H locs hf hw => ?_)
  exact r_retV C hw dX11_bad_23 hf
set_option maxRecDepth 100000 in
set_option maxHeartbeats 4000000 in
theorem c_X11_bad (l : Launch) (X : XT) (hinj : XInj X nM) (hZ : ZOK (Zm X)) (N : Nat) (S : S2) (out : S2) (hf : f_X11_bad N S = some out) : MV l X shM nM (Zm X) yX11_bad cX11_bad 1 none rmX11_bad [.ref (X.2.2 0)] S out := by
  refine met_V (own := RX11) (by decide) rfl hinj hZ (Nat.le_of_ble_eq_true rfl) (fun p e s m args below meth c C ls H locs hw hl => ?_)
  unfold f_X11_bad at hf
  have hl : lv_has ls 1 [(0, .ref (X.2.2 0))] := hl
  refine lv_aload_n C.1.1 C.1.2.1 dX11_bad_0 rfl (lv_at hl 0 rfl) ?_
  refine lv_aload_n C.1.1 C.1.2.1 dX11_bad_1 rfl (lv_at hl 0 rfl) ?_
  refine r_getI (k := 8) C hw shM_0 ltM_0 cO11 rfl (by decide) tw5_152 rfl dX11_bad_2 hf (fun v2 hf => ?_)
  refine r_iconst (v := (-1)) C dX11_bad_5 ?_
  refine r_icmp_ne C (tgt := 16) dX11_bad_6 (by decide) hf (fun hf => ?_) (fun hf => ?_)
  · refine lv_aload_n C.1.1 C.1.2.1 dX11_bad_16 rfl (lv_at hl 0 rfl) ?_
    refine r_getI (k := 8) C hw shM_0 ltM_0 cO11 rfl (by decide) tw5_152 rfl dX11_bad_17 hf (fun v17 hf => ?_)
    exact (w_X11_bad_20 l hinj hZ C out N) v17 S H locs ls hf hw (lv_sub hl [] rfl)
  · refine lv_aload_n C.1.1 C.1.2.1 dX11_bad_9 rfl (lv_at hl 0 rfl) ?_
    refine r_getI (k := 5) C hw shM_0 ltM_0 cO11 rfl (by decide) tw5_149 rfl dX11_bad_10 hf (fun v10 hf => ?_)
    refine lv_goto (tgt := 20) C.1.1 C.1.2.1 dX11_bad_13 (by decide) ?_
    exact (w_X11_bad_20 l hinj hZ C out N) v10 S H locs ls hf hw (lv_sub hl [] rfl)
def f_X11_number_35 (N : Nat) (x1 : Int) (S : S2) : Option (Int × S2) := bV (f_X11_bad N S) fun S36 => rI x1 S36
def f_X11_number (N : Nat) (S : S2) (a1 : Int) (a2 : Int) : Option (Int × S2) := gI S 0 8 fun v1 => cI v1 (-1) (if v1 = (-1) then gI S 0 4 fun v9 => cI v9 2 (if v9 = 2 then gI S 0 10 fun v17 => cI v17 0 (if v17 = 0 then gI S 0 6 fun v24 => bI (f_X11_in N S v24 a1 a2) fun v29 S29 => cI v29 0 (if v29 = 0 then (f_X11_number_35 N) a1 S29 else gI S29 0 6 fun v42 => bV (f_X11_next N S29) fun S47 => rI v42 S47) else (f_X11_number_35 N) a1 S) else (f_X11_number_35 N) a1 S) else (f_X11_number_35 N) a1 S)
abbrev rmX11_number : Room := { frames := 3, cells := 0, slots := 0, locals := 64 }
theorem hd_X11_number : yX11_number.cls ≠ "java/lang/invoke/MethodHandle" ∧ yX11_number.cls ≠ "java/lang/invoke/VarHandle" ∧ (parseMethodDescriptor yX11_number.desc).map (fun d => d.parameters.length) = some 2 := by decide +kernel
set_option maxRecDepth 100000 in
set_option maxHeartbeats 4000000 in
theorem w_X11_number_35 {p : Program} (l : Launch) {e : Env} {s : State} {m : MethodId} {args : Array Value} {below : List Frame} {meth : Method} {c : Code} {X : XT} (hinj : XInj X nM) (hZ : ZOK (Zm X)) (C : CX p s m args meth c cX11_number 4 RX11 (some .int) X nM (Zm X)) (out : Int × S2) : ∀ (N : Nat), ∀ (x1 : Int) (S : S2) (H : Heap) (locs : List Loc) (ls : Array Slot), f_X11_number_35 N x1 S = some out → WH X shM nM s S H locs → lv_has ls 4 [(0, .ref (X.2.2 0)), (1, .int (iz x1))] → W p l e rmX11_number s m args below meth c H locs 0 0 (QI X shM nM s args below out) (F0 m 35 ls []) := by
  intro N x1 S H locs ls hf hw hl
  unfold f_X11_number_35 at hf
  refine lv_aload_n C.1.1 C.1.2.1 dX11_number_35 rfl (lv_at hl 0 rfl) ?_
  refine r_callV (As := []) (rest := []) (rm := rmX11_bad) C hw shM_0 ltM_0 cO11 tw6_135 tw6_137 tp_53 tw1_12 tw6_138 hd_X11_bad rfl ⟨⟨rfl, rfl⟩, Nat.le_of_ble_eq_true rfl, Nat.le_of_ble_eq_true rfl⟩ hl.1 rfl (Nat.le_of_ble_eq_true rfl) dX11_number_36 hf (fun o ho => c_X11_bad l X hinj hZ N S o ho) (fun S36 H locs hf hw => ?_)
  refine lv_iload_n C.1.1 C.1.2.1 dX11_number_39 rfl (lv_at hl 1 rfl) ?_
  exact r_retI C hw dX11_number_40 hf
set_option maxRecDepth 100000 in
set_option maxHeartbeats 4000000 in
theorem c_X11_number (l : Launch) (X : XT) (hinj : XInj X nM) (hZ : ZOK (Zm X)) (N : Nat) (S : S2) (a1 : Int) (a2 : Int) (out : Int × S2) (hf : f_X11_number N S a1 a2 = some out) : MI l X shM nM (Zm X) yX11_number cX11_number 4 (some .int) rmX11_number [.ref (X.2.2 0), .int (iz a1), .int (iz a2)] S out := by
  refine met_I (own := RX11) (by decide) rfl hinj hZ (Nat.le_of_ble_eq_true rfl) (fun p e s m args below meth c C ls H locs hw hl => ?_)
  unfold f_X11_number at hf
  have hl : lv_has ls 4 [(0, .ref (X.2.2 0)), (1, .int (iz a1)), (2, .int (iz a2))] := hl
  refine lv_aload_n C.1.1 C.1.2.1 dX11_number_0 rfl (lv_at hl 0 rfl) ?_
  refine r_getI (k := 8) C hw shM_0 ltM_0 cO11 rfl (by decide) tw5_152 rfl dX11_number_1 hf (fun v1 hf => ?_)
  refine r_iconst (v := (-1)) C dX11_number_4 ?_
  refine r_icmp_ne C (tgt := 35) dX11_number_5 (by decide) hf (fun hf => ?_) (fun hf => ?_)
  · exact (w_X11_number_35 l hinj hZ C out N) a1 S H locs ls hf hw (lv_sub hl [0, 1] rfl)
  · refine lv_aload_n C.1.1 C.1.2.1 dX11_number_8 rfl (lv_at hl 0 rfl) ?_
    refine r_getI (k := 4) C hw shM_0 ltM_0 cO11 rfl (by decide) tw5_148 rfl dX11_number_9 hf (fun v9 hf => ?_)
    refine r_iconst (v := 2) C dX11_number_12 ?_
    refine r_icmp_ne C (tgt := 35) dX11_number_13 (by decide) hf (fun hf => ?_) (fun hf => ?_)
    · exact (w_X11_number_35 l hinj hZ C out N) a1 S H locs ls hf hw (lv_sub hl [0, 1] rfl)
    · refine lv_aload_n C.1.1 C.1.2.1 dX11_number_16 rfl (lv_at hl 0 rfl) ?_
      refine r_getI (k := 10) C hw shM_0 ltM_0 cO11 rfl (by decide) tw5_154 rfl dX11_number_17 hf (fun v17 hf => ?_)
      refine r_if_ne C (tgt := 35) dX11_number_20 (by decide) hf (fun hf => ?_) (fun hf => ?_)
      · exact (w_X11_number_35 l hinj hZ C out N) a1 S H locs ls hf hw (lv_sub hl [0, 1] rfl)
      · refine lv_aload_n C.1.1 C.1.2.1 dX11_number_23 rfl (lv_at hl 0 rfl) ?_
        refine r_getI (k := 6) C hw shM_0 ltM_0 cO11 rfl (by decide) tw5_150 rfl dX11_number_24 hf (fun v24 hf => ?_)
        refine lv_iload_n C.1.1 C.1.2.1 dX11_number_27 rfl (lv_at hl 1 rfl) ?_
        refine lv_iload_n C.1.1 C.1.2.1 dX11_number_28 rfl (lv_at hl 2 rfl) ?_
        refine r_scallI (As := [.int (iz v24), .int (iz a1), .int (iz a2)]) (rest := []) (rm := rmX11_in) C hw tw6_77 tw6_78 tw1_12 tw6_79 hd_X11_in rfl ⟨⟨rfl, rfl⟩, Nat.le_of_ble_eq_true rfl, Nat.le_of_ble_eq_true rfl⟩ hl.1 rfl (Nat.le_of_ble_eq_true rfl) dX11_number_29 hf (fun o ho => c_X11_in l X hinj hZ N S v24 a1 a2 o ho) (fun v29 S29 H locs hf hw => ?_)
        refine r_if_ne C (tgt := 41) dX11_number_32 (by decide) hf (fun hf => ?_) (fun hf => ?_)
        · refine lv_aload_n C.1.1 C.1.2.1 dX11_number_41 rfl (lv_at hl 0 rfl) ?_
          refine r_getI (k := 6) C hw shM_0 ltM_0 cO11 rfl (by decide) tw5_150 rfl dX11_number_42 hf (fun v42 hf => ?_)
          refine lv_istore_n (lv' := [(3, .int (iz v42)), (0, .ref (X.2.2 0)), (1, .int (iz a1)), (2, .int (iz a2))]) C.1.1 C.1.2.1 dX11_number_45 rfl hl (by decide) rfl (fun ls hl => ?_)
          refine lv_aload_n C.1.1 C.1.2.1 dX11_number_46 rfl (lv_at hl 1 rfl) ?_
          refine r_callV (As := []) (rest := []) (rm := rmX11_next) C hw shM_0 ltM_0 cO11 tw6_92 tw6_94 tp_47 tw1_12 tw6_95 hd_X11_next rfl ⟨⟨rfl, rfl⟩, Nat.le_of_ble_eq_true rfl, Nat.le_of_ble_eq_true rfl⟩ hl.1 rfl (Nat.le_of_ble_eq_true rfl) dX11_number_47 hf (fun o ho => c_X11_next l X hinj hZ N S29 o ho) (fun S47 H locs hf hw => ?_)
          refine lv_iload_n C.1.1 C.1.2.1 dX11_number_50 rfl (lv_at hl 0 rfl) ?_
          exact r_retI C hw dX11_number_51 hf
        · exact (w_X11_number_35 l hinj hZ C out N) a1 S29 H locs ls hf hw (lv_sub hl [0, 1] rfl)
def f_X11_readSamples_79 (N : Nat) (S : S2) : Option (S2) := gI S 0 8 fun v80 => cI v80 (-1) (if v80 = (-1) then gI S 0 4 fun v88 => cI v88 4 (if v88 = 4 then bV (f_X11_bad N S) fun S96 => rV S96 else rV S) else rV S)
def f_X11_readSamples_75 (k7 : Int → S2 → Option (S2)) (N : Nat) (y0 : Int) (S : S2) : Option (S2) := k7 y0 S
def f_X11_readSamples_74 (k7 : Int → S2 → Option (S2)) (N : Nat) (S : S2) : Option (S2) := (f_X11_readSamples_75 k7 N) 0 S
def f_X11_readSamples_54 (k7 : Int → S2 → Option (S2)) (N : Nat) (S : S2) : Option (S2) := gI S 0 8 fun v55 => cI v55 (-1) (if v55 = (-1) then gI S 0 4 fun v63 => cI v63 2 (if v63 = 2 then (f_X11_readSamples_75 k7 N) 1 S else (f_X11_readSamples_74 k7 N) S) else (f_X11_readSamples_74 k7 N) S)
def f_X11_readSamples_7 (k79 : S2 → Option (S2)) : Nat → Int → S2 → Option (S2)
  | 0, _, _ => none
  | N + 1, x1, S => cI x1 0 (if x1 = 0 then k79 S else gI S 0 15 fun v12 => cI v12 48 (if v12 = 48 then bV (f_X11_bad N S) fun S21 => (f_X11_readSamples_54 (f_X11_readSamples_7 k79 N) N) S21 else gI S 0 15 fun v32 => bI (f_X11_number N S 0 999) fun v40 S40 => sI S40 2 48 v32 v40 fun S43 => gI S43 0 15 fun v46 => uI S43 0 15 (v46 + 1) fun S51 => (f_X11_readSamples_54 (f_X11_readSamples_7 k79 N) N) S51))
def f_X11_readSamples (N : Nat) (S : S2) : Option (S2) := uI S 0 15 0 fun S2 => (f_X11_readSamples_7 (f_X11_readSamples_79 N) N) 1 S2
abbrev rmX11_readSamples : Room := { frames := 4, cells := 0, slots := 0, locals := 87 }
theorem hd_X11_readSamples : yX11_readSamples.cls ≠ "java/lang/invoke/MethodHandle" ∧ yX11_readSamples.cls ≠ "java/lang/invoke/VarHandle" ∧ (parseMethodDescriptor yX11_readSamples.desc).map (fun d => d.parameters.length) = some 0 := by decide +kernel
set_option maxRecDepth 100000 in
set_option maxHeartbeats 4000000 in
theorem w_X11_readSamples_79 {p : Program} (l : Launch) {e : Env} {s : State} {m : MethodId} {args : Array Value} {below : List Frame} {meth : Method} {c : Code} {X : XT} (hinj : XInj X nM) (hZ : ZOK (Zm X)) (C : CX p s m args meth c cX11_readSamples 2 RX11 none X nM (Zm X)) (out : S2) : ∀ (N : Nat), ∀ (S : S2) (H : Heap) (locs : List Loc) (ls : Array Slot), f_X11_readSamples_79 N S = some out → WH X shM nM s S H locs → lv_has ls 2 [(0, .ref (X.2.2 0))] → W p l e rmX11_readSamples s m args below meth c H locs 0 0 (QV X shM nM s args below out) (F0 m 79 ls []) := by
  intro N S H locs ls hf hw hl
  unfold f_X11_readSamples_79 at hf
  refine lv_aload_n C.1.1 C.1.2.1 dX11_readSamples_79 rfl (lv_at hl 0 rfl) ?_
  refine r_getI (k := 8) C hw shM_0 ltM_0 cO11 rfl (by decide) tw5_152 rfl dX11_readSamples_80 hf (fun v80 hf => ?_)
  refine r_iconst (v := (-1)) C dX11_readSamples_83 ?_
  refine r_icmp_ne C (tgt := 99) dX11_readSamples_84 (by decide) hf (fun hf => ?_) (fun hf => ?_)
  · exact r_retV C hw dX11_readSamples_99 hf
  · refine lv_aload_n C.1.1 C.1.2.1 dX11_readSamples_87 rfl (lv_at hl 0 rfl) ?_
    refine r_getI (k := 4) C hw shM_0 ltM_0 cO11 rfl (by decide) tw5_148 rfl dX11_readSamples_88 hf (fun v88 hf => ?_)
    refine r_iconst (v := 4) C dX11_readSamples_91 ?_
    refine r_icmp_ne C (tgt := 99) dX11_readSamples_92 (by decide) hf (fun hf => ?_) (fun hf => ?_)
    · exact r_retV C hw dX11_readSamples_99 hf
    · refine lv_aload_n C.1.1 C.1.2.1 dX11_readSamples_95 rfl (lv_at hl 0 rfl) ?_
      refine r_callV (As := []) (rest := []) (rm := rmX11_bad) C hw shM_0 ltM_0 cO11 tw6_135 tw6_137 tp_53 tw1_12 tw6_138 hd_X11_bad rfl ⟨⟨rfl, rfl⟩, Nat.le_of_ble_eq_true rfl, Nat.le_of_ble_eq_true rfl⟩ hl.1 rfl (Nat.le_of_ble_eq_true rfl) dX11_readSamples_96 hf (fun o ho => c_X11_bad l X hinj hZ N S o ho) (fun S96 H locs hf hw => ?_)
      exact r_retV C hw dX11_readSamples_99 hf
set_option maxRecDepth 100000 in
set_option maxHeartbeats 4000000 in
theorem w_X11_readSamples_75 {p : Program} (l : Launch) {e : Env} {s : State} {m : MethodId} {args : Array Value} {below : List Frame} {meth : Method} {c : Code} {X : XT} (hinj : XInj X nM) (hZ : ZOK (Zm X)) (C : CX p s m args meth c cX11_readSamples 2 RX11 none X nM (Zm X)) (out : S2) (k7 : Int → S2 → Option (S2)) (hk7 : ∀ (x1 : Int) (S : S2) (H : Heap) (locs : List Loc) (ls : Array Slot), k7 x1 S = some out → WH X shM nM s S H locs → lv_has ls 2 [(0, .ref (X.2.2 0)), (1, .int (iz x1))] → W p l e rmX11_readSamples s m args below meth c H locs 0 0 (QV X shM nM s args below out) (F0 m 7 ls [])) : ∀ (N : Nat), ∀ (y0 : Int) (S : S2) (H : Heap) (locs : List Loc) (ls : Array Slot), f_X11_readSamples_75 k7 N y0 S = some out → WH X shM nM s S H locs → lv_has ls 2 [(0, .ref (X.2.2 0))] → W p l e rmX11_readSamples s m args below meth c H locs 0 0 (QV X shM nM s args below out) (F0 m 75 ls [.int (iz y0)]) := by
  intro N y0 S H locs ls hf hw hl
  unfold f_X11_readSamples_75 at hf
  refine lv_istore_n (lv' := [(1, .int (iz y0)), (0, .ref (X.2.2 0))]) C.1.1 C.1.2.1 dX11_readSamples_75 rfl hl (by decide) rfl (fun ls hl => ?_)
  refine lv_goto (tgt := 7) C.1.1 C.1.2.1 dX11_readSamples_76 (by decide) ?_
  exact hk7 y0 S H locs ls hf hw (lv_sub hl [1, 0] rfl)
set_option maxRecDepth 100000 in
set_option maxHeartbeats 4000000 in
theorem w_X11_readSamples_74 {p : Program} (l : Launch) {e : Env} {s : State} {m : MethodId} {args : Array Value} {below : List Frame} {meth : Method} {c : Code} {X : XT} (hinj : XInj X nM) (hZ : ZOK (Zm X)) (C : CX p s m args meth c cX11_readSamples 2 RX11 none X nM (Zm X)) (out : S2) (k7 : Int → S2 → Option (S2)) (hk7 : ∀ (x1 : Int) (S : S2) (H : Heap) (locs : List Loc) (ls : Array Slot), k7 x1 S = some out → WH X shM nM s S H locs → lv_has ls 2 [(0, .ref (X.2.2 0)), (1, .int (iz x1))] → W p l e rmX11_readSamples s m args below meth c H locs 0 0 (QV X shM nM s args below out) (F0 m 7 ls [])) : ∀ (N : Nat), ∀ (S : S2) (H : Heap) (locs : List Loc) (ls : Array Slot), f_X11_readSamples_74 k7 N S = some out → WH X shM nM s S H locs → lv_has ls 2 [(0, .ref (X.2.2 0))] → W p l e rmX11_readSamples s m args below meth c H locs 0 0 (QV X shM nM s args below out) (F0 m 74 ls []) := by
  intro N S H locs ls hf hw hl
  unfold f_X11_readSamples_74 at hf
  refine r_iconst (v := 0) C dX11_readSamples_74 ?_
  exact (w_X11_readSamples_75 l hinj hZ C out k7 hk7 N) 0 S H locs ls hf hw (lv_sub hl [0] rfl)
set_option maxRecDepth 100000 in
set_option maxHeartbeats 4000000 in
theorem w_X11_readSamples_54 {p : Program} (l : Launch) {e : Env} {s : State} {m : MethodId} {args : Array Value} {below : List Frame} {meth : Method} {c : Code} {X : XT} (hinj : XInj X nM) (hZ : ZOK (Zm X)) (C : CX p s m args meth c cX11_readSamples 2 RX11 none X nM (Zm X)) (out : S2) (k7 : Int → S2 → Option (S2)) (hk7 : ∀ (x1 : Int) (S : S2) (H : Heap) (locs : List Loc) (ls : Array Slot), k7 x1 S = some out → WH X shM nM s S H locs → lv_has ls 2 [(0, .ref (X.2.2 0)), (1, .int (iz x1))] → W p l e rmX11_readSamples s m args below meth c H locs 0 0 (QV X shM nM s args below out) (F0 m 7 ls [])) : ∀ (N : Nat), ∀ (S : S2) (H : Heap) (locs : List Loc) (ls : Array Slot), f_X11_readSamples_54 k7 N S = some out → WH X shM nM s S H locs → lv_has ls 2 [(0, .ref (X.2.2 0))] → W p l e rmX11_readSamples s m args below meth c H locs 0 0 (QV X shM nM s args below out) (F0 m 54 ls []) := by
  intro N S H locs ls hf hw hl
  unfold f_X11_readSamples_54 at hf
  refine lv_aload_n C.1.1 C.1.2.1 dX11_readSamples_54 rfl (lv_at hl 0 rfl) ?_
  refine r_getI (k := 8) C hw shM_0 ltM_0 cO11 rfl (by decide) tw5_152 rfl dX11_readSamples_55 hf (fun v55 hf => ?_)
  refine r_iconst (v := (-1)) C dX11_readSamples_58 ?_
  refine r_icmp_ne C (tgt := 74) dX11_readSamples_59 (by decide) hf (fun hf => ?_) (fun hf => ?_)
  · exact (w_X11_readSamples_74 l hinj hZ C out k7 hk7 N) S H locs ls hf hw (lv_sub hl [0] rfl)
  · refine lv_aload_n C.1.1 C.1.2.1 dX11_readSamples_62 rfl (lv_at hl 0 rfl) ?_
    refine r_getI (k := 4) C hw shM_0 ltM_0 cO11 rfl (by decide) tw5_148 rfl dX11_readSamples_63 hf (fun v63 hf => ?_)
    refine r_iconst (v := 2) C dX11_readSamples_66 ?_
    refine r_icmp_ne C (tgt := 74) dX11_readSamples_67 (by decide) hf (fun hf => ?_) (fun hf => ?_)
    · exact (w_X11_readSamples_74 l hinj hZ C out k7 hk7 N) S H locs ls hf hw (lv_sub hl [0] rfl)
    · refine r_iconst (v := 1) C dX11_readSamples_70 ?_
      refine lv_goto (tgt := 75) C.1.1 C.1.2.1 dX11_readSamples_71 (by decide) ?_
      exact (w_X11_readSamples_75 l hinj hZ C out k7 hk7 N) 1 S H locs ls hf hw (lv_sub hl [0] rfl)
set_option maxRecDepth 100000 in
set_option maxHeartbeats 4000000 in
theorem w_X11_readSamples_7 {p : Program} (l : Launch) {e : Env} {s : State} {m : MethodId} {args : Array Value} {below : List Frame} {meth : Method} {c : Code} {X : XT} (hinj : XInj X nM) (hZ : ZOK (Zm X)) (C : CX p s m args meth c cX11_readSamples 2 RX11 none X nM (Zm X)) (out : S2) (k79 : S2 → Option (S2)) (hk79 : ∀ (S : S2) (H : Heap) (locs : List Loc) (ls : Array Slot), k79 S = some out → WH X shM nM s S H locs → lv_has ls 2 [(0, .ref (X.2.2 0))] → W p l e rmX11_readSamples s m args below meth c H locs 0 0 (QV X shM nM s args below out) (F0 m 79 ls [])) : ∀ (N : Nat), ∀ (x1 : Int) (S : S2) (H : Heap) (locs : List Loc) (ls : Array Slot), f_X11_readSamples_7 k79 N x1 S = some out → WH X shM nM s S H locs → lv_has ls 2 [(0, .ref (X.2.2 0)), (1, .int (iz x1))] → W p l e rmX11_readSamples s m args below meth c H locs 0 0 (QV X shM nM s args below out) (F0 m 7 ls []) := by
  intro N
  induction N with
  | zero => intro x1 S H locs ls hf hw hl; cases hf
  | succ N ih =>
    intro x1 S H locs ls hf hw hl
    rw [f_X11_readSamples_7.eq_2] at hf
    refine lv_iload_n C.1.1 C.1.2.1 dX11_readSamples_7 rfl (lv_at hl 1 rfl) ?_
    refine r_if_eq C (tgt := 79) dX11_readSamples_8 (by decide) hf (fun hf => ?_) (fun hf => ?_)
    · exact hk79 S H locs ls hf hw (lv_sub hl [0] rfl)
    · refine lv_aload_n C.1.1 C.1.2.1 dX11_readSamples_11 rfl (lv_at hl 0 rfl) ?_
      refine r_getI (k := 15) C hw shM_0 ltM_0 cO11 rfl (by decide) tw5_159 rfl dX11_readSamples_12 hf (fun v12 hf => ?_)
      refine r_bipush (v := 48) C dX11_readSamples_15 (by decide) ?_
      refine r_icmp_ne C (tgt := 27) dX11_readSamples_17 (by decide) hf (fun hf => ?_) (fun hf => ?_)
      · refine lv_aload_n C.1.1 C.1.2.1 dX11_readSamples_27 rfl (lv_at hl 0 rfl) ?_
        refine r_getR (k := 11) C hw shM_0 ltM_0 cO11 rfl (by decide) tw5_155 rfl dX11_readSamples_28 ?_
        refine lv_aload_n C.1.1 C.1.2.1 dX11_readSamples_31 rfl (lv_at hl 0 rfl) ?_
        refine r_getI (k := 15) C hw shM_0 ltM_0 cO11 rfl (by decide) tw5_159 rfl dX11_readSamples_32 hf (fun v32 hf => ?_)
        refine lv_aload_n C.1.1 C.1.2.1 dX11_readSamples_35 rfl (lv_at hl 0 rfl) ?_
        refine r_iconst (v := 0) C dX11_readSamples_36 ?_
        refine r_sipush (v := 999) C dX11_readSamples_37 (by decide) ?_
        refine r_callI (As := [.int (iz 0), .int (iz 999)]) (rest := [.int (iz v32), .ref (X.2.2 2)]) (rm := rmX11_number) C hw shM_0 ltM_0 cO11 tw6_143 tw6_145 tp_55 tw1_12 tw6_146 hd_X11_number rfl ⟨⟨rfl, rfl⟩, Nat.le_of_ble_eq_true rfl, Nat.le_of_ble_eq_true rfl⟩ hl.1 rfl (Nat.le_of_ble_eq_true rfl) dX11_readSamples_40 hf (fun o ho => c_X11_number l X hinj hZ N S 0 999 o ho) (fun v40 S40 H locs hf hw => ?_)
        refine r_iast C hw shM_2 ltM_2 (Nat.le_of_ble_eq_true rfl) dX11_readSamples_43 hf (fun S43 H locs hf hw => ?_)
        refine lv_aload_n C.1.1 C.1.2.1 dX11_readSamples_44 rfl (lv_at hl 0 rfl) ?_
        refine lv_dup C.1.1 C.1.2.1 dX11_readSamples_45 rfl ?_
        refine r_getI (k := 15) C hw shM_0 ltM_0 cO11 rfl (by decide) tw5_159 rfl dX11_readSamples_46 hf (fun v46 hf => ?_)
        refine r_iconst (v := 1) C dX11_readSamples_49 ?_
        refine r_iadd C dX11_readSamples_50 ?_
        refine r_putI (k := 15) C hw shM_0 ltM_0 cO11 rfl (by decide) tw5_159 rfl rfl rfl dX11_readSamples_51 hf (fun S51 H locs hf hw => ?_)
        exact (w_X11_readSamples_54 l hinj hZ C out (f_X11_readSamples_7 k79 N) ih N) S51 H locs ls hf hw (lv_sub hl [0] rfl)
      · refine lv_aload_n C.1.1 C.1.2.1 dX11_readSamples_20 rfl (lv_at hl 0 rfl) ?_
        refine r_callV (As := []) (rest := []) (rm := rmX11_bad) C hw shM_0 ltM_0 cO11 tw6_135 tw6_137 tp_53 tw1_12 tw6_138 hd_X11_bad rfl ⟨⟨rfl, rfl⟩, Nat.le_of_ble_eq_true rfl, Nat.le_of_ble_eq_true rfl⟩ hl.1 rfl (Nat.le_of_ble_eq_true rfl) dX11_readSamples_21 hf (fun o ho => c_X11_bad l X hinj hZ N S o ho) (fun S21 H locs hf hw => ?_)
        refine lv_goto (tgt := 54) C.1.1 C.1.2.1 dX11_readSamples_24 (by decide) ?_
        exact (w_X11_readSamples_54 l hinj hZ C out (f_X11_readSamples_7 k79 N) ih N) S21 H locs ls hf hw (lv_sub hl [0] rfl)
set_option maxRecDepth 100000 in
set_option maxHeartbeats 4000000 in
theorem c_X11_readSamples (l : Launch) (X : XT) (hinj : XInj X nM) (hZ : ZOK (Zm X)) (N : Nat) (S : S2) (out : S2) (hf : f_X11_readSamples N S = some out) : MV l X shM nM (Zm X) yX11_readSamples cX11_readSamples 2 none rmX11_readSamples [.ref (X.2.2 0)] S out := by
  refine met_V (own := RX11) (by decide) rfl hinj hZ (Nat.le_of_ble_eq_true rfl) (fun p e s m args below meth c C ls H locs hw hl => ?_)
  unfold f_X11_readSamples at hf
  have hl : lv_has ls 2 [(0, .ref (X.2.2 0))] := hl
  refine lv_aload_n C.1.1 C.1.2.1 dX11_readSamples_0 rfl (lv_at hl 0 rfl) ?_
  refine r_iconst (v := 0) C dX11_readSamples_1 ?_
  refine r_putI (k := 15) C hw shM_0 ltM_0 cO11 rfl (by decide) tw5_159 rfl rfl rfl dX11_readSamples_2 hf (fun S2 H locs hf hw => ?_)
  refine r_iconst (v := 1) C dX11_readSamples_5 ?_
  refine lv_istore_n (lv' := [(1, .int (iz 1)), (0, .ref (X.2.2 0))]) C.1.1 C.1.2.1 dX11_readSamples_6 rfl hl (by decide) rfl (fun ls hl => ?_)
  exact (w_X11_readSamples_7 l hinj hZ C out (f_X11_readSamples_79 N) (w_X11_readSamples_79 l hinj hZ C out N) N) 1 S2 H locs ls hf hw (lv_sub hl [1, 0] rfl)
def f_X11_readLine_63 (N : Nat) (x1 : Int) (S : S2) : Option (S2) := cI x1 0 (if x1 = 0 then bV (f_X11_bad N S) fun S68 => rV S68 else gI S 0 16 fun v77 => gL S 0 9 fun v81 => sL S 5 8 v77 v81 fun S84 => gI S84 0 16 fun v90 => gI S84 0 7 fun v94 => sI S84 4 8 v90 v94 fun S97 => bV (f_X11_next N S97) fun S99 => gI S99 0 16 fun v107 => bI (f_X11_number N S99 0 47) fun v114 S114 => sI S114 3 8 v107 v114 fun S117 => gI S117 0 16 fun v120 => uI S117 0 16 (v120 + 1) fun S125 => rV S125)
def f_X11_readLine_56 (k25 : Int → Int → S2 → Option (S2)) (N : Nat) (x2 : Int) (y0 : Int) (S : S2) : Option (S2) := k25 y0 (x2 + 1) S
def f_X11_readLine_55 (k25 : Int → Int → S2 → Option (S2)) (N : Nat) (x2 : Int) (S : S2) : Option (S2) := (f_X11_readLine_56 k25 N) x2 0 S
def f_X11_readLine_25 (k63 : Int → S2 → Option (S2)) : Nat → Int → Int → S2 → Option (S2)
  | 0, _, _, _ => none
  | N + 1, x1, x2, S => gI S 0 16 fun v27 => cI x2 v27 (if v27 ≤ x2 then k63 x1 S else cI x1 0 (if x1 = 0 then (f_X11_readLine_55 (f_X11_readLine_25 k63 N) N) x2 S else aL S 5 8 x2 fun v42 => gL S 0 9 fun v44 => cI (bz (lg_cmp v42 v44)) 0 (if (bz (lg_cmp v42 v44)) = 0 then (f_X11_readLine_55 (f_X11_readLine_25 k63 N) N) x2 S else (f_X11_readLine_56 (f_X11_readLine_25 k63 N) N) x2 1 S)))
def f_X11_readLine_22 (N : Nat) (y0 : Int) (S : S2) : Option (S2) := (f_X11_readLine_25 (f_X11_readLine_63 N) N) y0 0 S
def f_X11_readLine_21 (N : Nat) (S : S2) : Option (S2) := (f_X11_readLine_22 N) 0 S
def f_X11_readLine (N : Nat) (S : S2) : Option (S2) := gI S 0 4 fun v1 => cI v1 1 (if v1 = 1 then gI S 0 7 fun v9 => cI v9 6 (if 6 < v9 then (f_X11_readLine_21 N) S else (f_X11_readLine_22 N) 1 S) else (f_X11_readLine_21 N) S)
abbrev rmX11_readLine : Room := { frames := 4, cells := 0, slots := 0, locals := 87 }
theorem hd_X11_readLine : yX11_readLine.cls ≠ "java/lang/invoke/MethodHandle" ∧ yX11_readLine.cls ≠ "java/lang/invoke/VarHandle" ∧ (parseMethodDescriptor yX11_readLine.desc).map (fun d => d.parameters.length) = some 0 := by decide +kernel
set_option maxRecDepth 100000 in
set_option maxHeartbeats 4000000 in
theorem w_X11_readLine_63 {p : Program} (l : Launch) {e : Env} {s : State} {m : MethodId} {args : Array Value} {below : List Frame} {meth : Method} {c : Code} {X : XT} (hinj : XInj X nM) (hZ : ZOK (Zm X)) (C : CX p s m args meth c cX11_readLine 3 RX11 none X nM (Zm X)) (out : S2) : ∀ (N : Nat), ∀ (x1 : Int) (S : S2) (H : Heap) (locs : List Loc) (ls : Array Slot), f_X11_readLine_63 N x1 S = some out → WH X shM nM s S H locs → lv_has ls 3 [(0, .ref (X.2.2 0)), (1, .int (iz x1))] → W p l e rmX11_readLine s m args below meth c H locs 0 0 (QV X shM nM s args below out) (F0 m 63 ls []) := by
  intro N x1 S H locs ls hf hw hl
  unfold f_X11_readLine_63 at hf
  refine lv_iload_n C.1.1 C.1.2.1 dX11_readLine_63 rfl (lv_at hl 1 rfl) ?_
  refine r_if_ne C (tgt := 72) dX11_readLine_64 (by decide) hf (fun hf => ?_) (fun hf => ?_)
  · refine lv_aload_n C.1.1 C.1.2.1 dX11_readLine_72 rfl (lv_at hl 0 rfl) ?_
    refine r_getR (k := 14) C hw shM_0 ltM_0 cO11 rfl (by decide) tw5_158 rfl dX11_readLine_73 ?_
    refine lv_aload_n C.1.1 C.1.2.1 dX11_readLine_76 rfl (lv_at hl 0 rfl) ?_
    refine r_getI (k := 16) C hw shM_0 ltM_0 cO11 rfl (by decide) tw5_160 rfl dX11_readLine_77 hf (fun v77 hf => ?_)
    refine lv_aload_n C.1.1 C.1.2.1 dX11_readLine_80 rfl (lv_at hl 0 rfl) ?_
    refine r_getL (k := 9) C hw shM_0 ltM_0 cO11 rfl (by decide) tw5_153 rfl dX11_readLine_81 hf (fun v81 hf => ?_)
    refine r_last C hw shM_5 ltM_5 (Nat.le_of_ble_eq_true rfl) dX11_readLine_84 hf (fun S84 H locs hf hw => ?_)
    refine lv_aload_n C.1.1 C.1.2.1 dX11_readLine_85 rfl (lv_at hl 0 rfl) ?_
    refine r_getR (k := 13) C hw shM_0 ltM_0 cO11 rfl (by decide) tw5_157 rfl dX11_readLine_86 ?_
    refine lv_aload_n C.1.1 C.1.2.1 dX11_readLine_89 rfl (lv_at hl 0 rfl) ?_
    refine r_getI (k := 16) C hw shM_0 ltM_0 cO11 rfl (by decide) tw5_160 rfl dX11_readLine_90 hf (fun v90 hf => ?_)
    refine lv_aload_n C.1.1 C.1.2.1 dX11_readLine_93 rfl (lv_at hl 0 rfl) ?_
    refine r_getI (k := 7) C hw shM_0 ltM_0 cO11 rfl (by decide) tw5_151 rfl dX11_readLine_94 hf (fun v94 hf => ?_)
    refine r_iast C hw shM_4 ltM_4 (Nat.le_of_ble_eq_true rfl) dX11_readLine_97 hf (fun S97 H locs hf hw => ?_)
    refine lv_aload_n C.1.1 C.1.2.1 dX11_readLine_98 rfl (lv_at hl 0 rfl) ?_
    refine r_callV (As := []) (rest := []) (rm := rmX11_next) C hw shM_0 ltM_0 cO11 tw6_92 tw6_94 tp_47 tw1_12 tw6_95 hd_X11_next rfl ⟨⟨rfl, rfl⟩, Nat.le_of_ble_eq_true rfl, Nat.le_of_ble_eq_true rfl⟩ hl.1 rfl (Nat.le_of_ble_eq_true rfl) dX11_readLine_99 hf (fun o ho => c_X11_next l X hinj hZ N S97 o ho) (fun S99 H locs hf hw => ?_)
    refine lv_aload_n C.1.1 C.1.2.1 dX11_readLine_102 rfl (lv_at hl 0 rfl) ?_
    refine r_getR (k := 12) C hw shM_0 ltM_0 cO11 rfl (by decide) tw5_156 rfl dX11_readLine_103 ?_
    refine lv_aload_n C.1.1 C.1.2.1 dX11_readLine_106 rfl (lv_at hl 0 rfl) ?_
    refine r_getI (k := 16) C hw shM_0 ltM_0 cO11 rfl (by decide) tw5_160 rfl dX11_readLine_107 hf (fun v107 hf => ?_)
    refine lv_aload_n C.1.1 C.1.2.1 dX11_readLine_110 rfl (lv_at hl 0 rfl) ?_
    refine r_iconst (v := 0) C dX11_readLine_111 ?_
    refine r_bipush (v := 47) C dX11_readLine_112 (by decide) ?_
    refine r_callI (As := [.int (iz 0), .int (iz 47)]) (rest := [.int (iz v107), .ref (X.2.2 3)]) (rm := rmX11_number) C hw shM_0 ltM_0 cO11 tw6_143 tw6_145 tp_55 tw1_12 tw6_146 hd_X11_number rfl ⟨⟨rfl, rfl⟩, Nat.le_of_ble_eq_true rfl, Nat.le_of_ble_eq_true rfl⟩ hl.1 rfl (Nat.le_of_ble_eq_true rfl) dX11_readLine_114 hf (fun o ho => c_X11_number l X hinj hZ N S99 0 47 o ho) (fun v114 S114 H locs hf hw => ?_)
    refine r_iast C hw shM_3 ltM_3 (Nat.le_of_ble_eq_true rfl) dX11_readLine_117 hf (fun S117 H locs hf hw => ?_)
    refine lv_aload_n C.1.1 C.1.2.1 dX11_readLine_118 rfl (lv_at hl 0 rfl) ?_
    refine lv_dup C.1.1 C.1.2.1 dX11_readLine_119 rfl ?_
    refine r_getI (k := 16) C hw shM_0 ltM_0 cO11 rfl (by decide) tw5_160 rfl dX11_readLine_120 hf (fun v120 hf => ?_)
    refine r_iconst (v := 1) C dX11_readLine_123 ?_
    refine r_iadd C dX11_readLine_124 ?_
    refine r_putI (k := 16) C hw shM_0 ltM_0 cO11 rfl (by decide) tw5_160 rfl rfl rfl dX11_readLine_125 hf (fun S125 H locs hf hw => ?_)
    exact r_retV C hw dX11_readLine_128 hf
  · refine lv_aload_n C.1.1 C.1.2.1 dX11_readLine_67 rfl (lv_at hl 0 rfl) ?_
    refine r_callV (As := []) (rest := []) (rm := rmX11_bad) C hw shM_0 ltM_0 cO11 tw6_135 tw6_137 tp_53 tw1_12 tw6_138 hd_X11_bad rfl ⟨⟨rfl, rfl⟩, Nat.le_of_ble_eq_true rfl, Nat.le_of_ble_eq_true rfl⟩ hl.1 rfl (Nat.le_of_ble_eq_true rfl) dX11_readLine_68 hf (fun o ho => c_X11_bad l X hinj hZ N S o ho) (fun S68 H locs hf hw => ?_)
    exact r_retV C hw dX11_readLine_71 hf
set_option maxRecDepth 100000 in
set_option maxHeartbeats 4000000 in
theorem w_X11_readLine_56 {p : Program} (l : Launch) {e : Env} {s : State} {m : MethodId} {args : Array Value} {below : List Frame} {meth : Method} {c : Code} {X : XT} (hinj : XInj X nM) (hZ : ZOK (Zm X)) (C : CX p s m args meth c cX11_readLine 3 RX11 none X nM (Zm X)) (out : S2) (k25 : Int → Int → S2 → Option (S2)) (hk25 : ∀ (x1 : Int) (x2 : Int) (S : S2) (H : Heap) (locs : List Loc) (ls : Array Slot), k25 x1 x2 S = some out → WH X shM nM s S H locs → lv_has ls 3 [(0, .ref (X.2.2 0)), (1, .int (iz x1)), (2, .int (iz x2))] → W p l e rmX11_readLine s m args below meth c H locs 0 0 (QV X shM nM s args below out) (F0 m 25 ls [])) : ∀ (N : Nat), ∀ (x2 : Int) (y0 : Int) (S : S2) (H : Heap) (locs : List Loc) (ls : Array Slot), f_X11_readLine_56 k25 N x2 y0 S = some out → WH X shM nM s S H locs → lv_has ls 3 [(0, .ref (X.2.2 0)), (2, .int (iz x2))] → W p l e rmX11_readLine s m args below meth c H locs 0 0 (QV X shM nM s args below out) (F0 m 56 ls [.int (iz y0)]) := by
  intro N x2 y0 S H locs ls hf hw hl
  unfold f_X11_readLine_56 at hf
  refine lv_istore_n (lv' := [(1, .int (iz y0)), (0, .ref (X.2.2 0)), (2, .int (iz x2))]) C.1.1 C.1.2.1 dX11_readLine_56 rfl hl (by decide) rfl (fun ls hl => ?_)
  refine lv_iinc (v := iz (x2 + 1)) (lv' := [(2, .int (iz (x2 + 1))), (1, .int (iz y0)), (0, .ref (X.2.2 0))]) C.1.1 C.1.2.1 dX11_readLine_57 hl (k := 2) rfl (iz_add _ _) (by decide) rfl (fun ls hl => ?_)
  refine lv_goto (tgt := 25) C.1.1 C.1.2.1 dX11_readLine_60 (by decide) ?_
  exact hk25 y0 (x2 + 1) S H locs ls hf hw (lv_sub hl [2, 1, 0] rfl)
set_option maxRecDepth 100000 in
set_option maxHeartbeats 4000000 in
theorem w_X11_readLine_55 {p : Program} (l : Launch) {e : Env} {s : State} {m : MethodId} {args : Array Value} {below : List Frame} {meth : Method} {c : Code} {X : XT} (hinj : XInj X nM) (hZ : ZOK (Zm X)) (C : CX p s m args meth c cX11_readLine 3 RX11 none X nM (Zm X)) (out : S2) (k25 : Int → Int → S2 → Option (S2)) (hk25 : ∀ (x1 : Int) (x2 : Int) (S : S2) (H : Heap) (locs : List Loc) (ls : Array Slot), k25 x1 x2 S = some out → WH X shM nM s S H locs → lv_has ls 3 [(0, .ref (X.2.2 0)), (1, .int (iz x1)), (2, .int (iz x2))] → W p l e rmX11_readLine s m args below meth c H locs 0 0 (QV X shM nM s args below out) (F0 m 25 ls [])) : ∀ (N : Nat), ∀ (x2 : Int) (S : S2) (H : Heap) (locs : List Loc) (ls : Array Slot), f_X11_readLine_55 k25 N x2 S = some out → WH X shM nM s S H locs → lv_has ls 3 [(0, .ref (X.2.2 0)), (2, .int (iz x2))] → W p l e rmX11_readLine s m args below meth c H locs 0 0 (QV X shM nM s args below out) (F0 m 55 ls []) := by
  intro N x2 S H locs ls hf hw hl
  unfold f_X11_readLine_55 at hf
  refine r_iconst (v := 0) C dX11_readLine_55 ?_
  exact (w_X11_readLine_56 l hinj hZ C out k25 hk25 N) x2 0 S H locs ls hf hw (lv_sub hl [0, 1] rfl)
set_option maxRecDepth 100000 in
set_option maxHeartbeats 4000000 in
theorem w_X11_readLine_25 {p : Program} (l : Launch) {e : Env} {s : State} {m : MethodId} {args : Array Value} {below : List Frame} {meth : Method} {c : Code} {X : XT} (hinj : XInj X nM) (hZ : ZOK (Zm X)) (C : CX p s m args meth c cX11_readLine 3 RX11 none X nM (Zm X)) (out : S2) (k63 : Int → S2 → Option (S2)) (hk63 : ∀ (x1 : Int) (S : S2) (H : Heap) (locs : List Loc) (ls : Array Slot), k63 x1 S = some out → WH X shM nM s S H locs → lv_has ls 3 [(0, .ref (X.2.2 0)), (1, .int (iz x1))] → W p l e rmX11_readLine s m args below meth c H locs 0 0 (QV X shM nM s args below out) (F0 m 63 ls [])) : ∀ (N : Nat), ∀ (x1 : Int) (x2 : Int) (S : S2) (H : Heap) (locs : List Loc) (ls : Array Slot), f_X11_readLine_25 k63 N x1 x2 S = some out → WH X shM nM s S H locs → lv_has ls 3 [(0, .ref (X.2.2 0)), (1, .int (iz x1)), (2, .int (iz x2))] → W p l e rmX11_readLine s m args below meth c H locs 0 0 (QV X shM nM s args below out) (F0 m 25 ls []) := by
  intro N
  induction N with
  | zero => intro x1 x2 S H locs ls hf hw hl; cases hf
  | succ N ih =>
    intro x1 x2 S H locs ls hf hw hl
    rw [f_X11_readLine_25.eq_2] at hf
    refine lv_iload_n C.1.1 C.1.2.1 dX11_readLine_25 rfl (lv_at hl 2 rfl) ?_
    refine lv_aload_n C.1.1 C.1.2.1 dX11_readLine_26 rfl (lv_at hl 0 rfl) ?_
    refine r_getI (k := 16) C hw shM_0 ltM_0 cO11 rfl (by decide) tw5_160 rfl dX11_readLine_27 hf (fun v27 hf => ?_)
    refine r_icmp_ge C (tgt := 63) dX11_readLine_30 (by decide) hf (fun hf => ?_) (fun hf => ?_)
    · exact hk63 x1 S H locs ls hf hw (lv_sub hl [0, 1] rfl)
    · refine lv_iload_n C.1.1 C.1.2.1 dX11_readLine_33 rfl (lv_at hl 1 rfl) ?_
      refine r_if_eq C (tgt := 55) dX11_readLine_34 (by decide) hf (fun hf => ?_) (fun hf => ?_)
      · exact (w_X11_readLine_55 l hinj hZ C out (f_X11_readLine_25 k63 N) ih N) x2 S H locs ls hf hw (lv_sub hl [0, 2] rfl)
      · refine lv_aload_n C.1.1 C.1.2.1 dX11_readLine_37 rfl (lv_at hl 0 rfl) ?_
        refine r_getR (k := 14) C hw shM_0 ltM_0 cO11 rfl (by decide) tw5_158 rfl dX11_readLine_38 ?_
        refine lv_iload_n C.1.1 C.1.2.1 dX11_readLine_41 rfl (lv_at hl 2 rfl) ?_
        refine r_lald C hw shM_5 ltM_5 (Nat.le_of_ble_eq_true rfl) dX11_readLine_42 hf (fun v42 hf => ?_)
        refine lv_aload_n C.1.1 C.1.2.1 dX11_readLine_43 rfl (lv_at hl 0 rfl) ?_
        refine r_getL (k := 9) C hw shM_0 ltM_0 cO11 rfl (by decide) tw5_153 rfl dX11_readLine_44 hf (fun v44 hf => ?_)
        refine r_lcmp C dX11_readLine_47 ?_
        refine r_if_eq C (tgt := 55) dX11_readLine_48 (by decide) hf (fun hf => ?_) (fun hf => ?_)
        · exact (w_X11_readLine_55 l hinj hZ C out (f_X11_readLine_25 k63 N) ih N) x2 S H locs ls hf hw (lv_sub hl [0, 2] rfl)
        · refine r_iconst (v := 1) C dX11_readLine_51 ?_
          refine lv_goto (tgt := 56) C.1.1 C.1.2.1 dX11_readLine_52 (by decide) ?_
          exact (w_X11_readLine_56 l hinj hZ C out (f_X11_readLine_25 k63 N) ih N) x2 1 S H locs ls hf hw (lv_sub hl [0, 2] rfl)
set_option maxRecDepth 100000 in
set_option maxHeartbeats 4000000 in
theorem w_X11_readLine_22 {p : Program} (l : Launch) {e : Env} {s : State} {m : MethodId} {args : Array Value} {below : List Frame} {meth : Method} {c : Code} {X : XT} (hinj : XInj X nM) (hZ : ZOK (Zm X)) (C : CX p s m args meth c cX11_readLine 3 RX11 none X nM (Zm X)) (out : S2) : ∀ (N : Nat), ∀ (y0 : Int) (S : S2) (H : Heap) (locs : List Loc) (ls : Array Slot), f_X11_readLine_22 N y0 S = some out → WH X shM nM s S H locs → lv_has ls 3 [(0, .ref (X.2.2 0))] → W p l e rmX11_readLine s m args below meth c H locs 0 0 (QV X shM nM s args below out) (F0 m 22 ls [.int (iz y0)]) := by
  intro N y0 S H locs ls hf hw hl
  unfold f_X11_readLine_22 at hf
  refine lv_istore_n (lv' := [(1, .int (iz y0)), (0, .ref (X.2.2 0))]) C.1.1 C.1.2.1 dX11_readLine_22 rfl hl (by decide) rfl (fun ls hl => ?_)
  refine r_iconst (v := 0) C dX11_readLine_23 ?_
  refine lv_istore_n (lv' := [(2, .int (iz 0)), (1, .int (iz y0)), (0, .ref (X.2.2 0))]) C.1.1 C.1.2.1 dX11_readLine_24 rfl hl (by decide) rfl (fun ls hl => ?_)
  exact (w_X11_readLine_25 l hinj hZ C out (f_X11_readLine_63 N) (w_X11_readLine_63 l hinj hZ C out N) N) y0 0 S H locs ls hf hw (lv_sub hl [2, 1, 0] rfl)
set_option maxRecDepth 100000 in
set_option maxHeartbeats 4000000 in
theorem w_X11_readLine_21 {p : Program} (l : Launch) {e : Env} {s : State} {m : MethodId} {args : Array Value} {below : List Frame} {meth : Method} {c : Code} {X : XT} (hinj : XInj X nM) (hZ : ZOK (Zm X)) (C : CX p s m args meth c cX11_readLine 3 RX11 none X nM (Zm X)) (out : S2) : ∀ (N : Nat), ∀ (S : S2) (H : Heap) (locs : List Loc) (ls : Array Slot), f_X11_readLine_21 N S = some out → WH X shM nM s S H locs → lv_has ls 3 [(0, .ref (X.2.2 0))] → W p l e rmX11_readLine s m args below meth c H locs 0 0 (QV X shM nM s args below out) (F0 m 21 ls []) := by
  intro N S H locs ls hf hw hl
  unfold f_X11_readLine_21 at hf
  refine r_iconst (v := 0) C dX11_readLine_21 ?_
  exact (w_X11_readLine_22 l hinj hZ C out N) 0 S H locs ls hf hw (lv_sub hl [0] rfl)
set_option maxRecDepth 100000 in
set_option maxHeartbeats 4000000 in
theorem c_X11_readLine (l : Launch) (X : XT) (hinj : XInj X nM) (hZ : ZOK (Zm X)) (N : Nat) (S : S2) (out : S2) (hf : f_X11_readLine N S = some out) : MV l X shM nM (Zm X) yX11_readLine cX11_readLine 3 none rmX11_readLine [.ref (X.2.2 0)] S out := by
  refine met_V (own := RX11) (by decide) rfl hinj hZ (Nat.le_of_ble_eq_true rfl) (fun p e s m args below meth c C ls H locs hw hl => ?_)
  unfold f_X11_readLine at hf
  have hl : lv_has ls 3 [(0, .ref (X.2.2 0))] := hl
  refine lv_aload_n C.1.1 C.1.2.1 dX11_readLine_0 rfl (lv_at hl 0 rfl) ?_
  refine r_getI (k := 4) C hw shM_0 ltM_0 cO11 rfl (by decide) tw5_148 rfl dX11_readLine_1 hf (fun v1 hf => ?_)
  refine r_iconst (v := 1) C dX11_readLine_4 ?_
  refine r_icmp_ne C (tgt := 21) dX11_readLine_5 (by decide) hf (fun hf => ?_) (fun hf => ?_)
  · exact (w_X11_readLine_21 l hinj hZ C out N) S H locs ls hf hw (lv_sub hl [0] rfl)
  · refine lv_aload_n C.1.1 C.1.2.1 dX11_readLine_8 rfl (lv_at hl 0 rfl) ?_
    refine r_getI (k := 7) C hw shM_0 ltM_0 cO11 rfl (by decide) tw5_151 rfl dX11_readLine_9 hf (fun v9 hf => ?_)
    refine r_bipush (v := 6) C dX11_readLine_12 (by decide) ?_
    refine r_icmp_gt C (tgt := 21) dX11_readLine_14 (by decide) hf (fun hf => ?_) (fun hf => ?_)
    · exact (w_X11_readLine_21 l hinj hZ C out N) S H locs ls hf hw (lv_sub hl [0] rfl)
    · refine r_iconst (v := 1) C dX11_readLine_17 ?_
      refine lv_goto (tgt := 22) C.1.1 C.1.2.1 dX11_readLine_18 (by decide) ?_
      exact (w_X11_readLine_22 l hinj hZ C out N) 1 S H locs ls hf hw (lv_sub hl [0] rfl)
def f_X11_clause_168 (N : Nat) (x1 : Int) (x2 : Int) (S : S2) : Option (Int × S2) := rI (bz (iz x1 ||| iz (bz (iz 1 <<< (iz x2 &&& 31))))) S
def f_X11_clause_96 (N : Nat) (x1 : Int) (x2 : Int) (S : S2) : Option (Int × S2) := bV (f_X11_next N S) fun S97 => cI x2 0 (if x2 = 0 then bV (f_X11_readSamples N S97) fun S129 => (f_X11_clause_168 N) x1 x2 S129 else (if x2 = 1 then bI (f_X11_number N S97 0 999) fun v141 S141 => uI S141 0 17 v141 fun S144 => (f_X11_clause_168 N) x1 x2 S144 else (if x2 = 2 then bI (f_X11_number N S97 0 9) fun v155 S155 => uI S155 0 18 v155 fun S158 => (f_X11_clause_168 N) x1 x2 S158 else bV (f_X11_readLine N S97) fun S165 => (f_X11_clause_168 N) x1 x2 S165)))
def f_X11_clause_90 (N : Nat) (x1 : Int) (S : S2) : Option (Int × S2) := bV (f_X11_bad N S) fun S91 => rI x1 S91
def f_X11_clause_76 (N : Nat) (x1 : Int) (x2 : Int) (S : S2) : Option (Int × S2) := cI x2 3 (if x2 = 3 then gI S 0 16 fun v82 => cI v82 8 (if v82 = 8 then (f_X11_clause_90 N) x1 S else (f_X11_clause_96 N) x1 x2 S) else (f_X11_clause_96 N) x1 x2 S)
def f_X11_clause_57 (N : Nat) (x1 : Int) (y0 : Int) (S : S2) : Option (Int × S2) := cI y0 (-1) (if y0 = (-1) then (f_X11_clause_90 N) x1 S else cI y0 3 (if 3 ≤ y0 then (f_X11_clause_76 N) x1 y0 S else bI (f_X11_has N S x1 y0) fun v70 S70 => cI v70 0 (if v70 = 0 then (f_X11_clause_76 N) x1 y0 S70 else (f_X11_clause_90 N) x1 S70)))
def f_X11_clause (N : Nat) (S : S2) (a1 : Int) : Option (Int × S2) := bI (f_X11_isWord N S (10983929 : Int64)) fun v4 S4 => cI v4 0 (if v4 = 0 then bI (f_X11_isWord N S4 (7742498 : Int64)) fun v18 S18 => cI v18 0 (if v18 = 0 then bI (f_X11_isWord N S18 (9665171 : Int64)) fun v32 S32 => cI v32 0 (if v32 = 0 then bI (f_X11_isWord N S32 (243140 : Int64)) fun v46 S46 => cI v46 0 (if v46 = 0 then (f_X11_clause_57 N) a1 (-1) S46 else (f_X11_clause_57 N) a1 3 S46) else (f_X11_clause_57 N) a1 2 S32) else (f_X11_clause_57 N) a1 1 S18) else (f_X11_clause_57 N) a1 0 S4)
abbrev rmX11_clause : Room := { frames := 5, cells := 0, slots := 0, locals := 109 }
theorem hd_X11_clause : yX11_clause.cls ≠ "java/lang/invoke/MethodHandle" ∧ yX11_clause.cls ≠ "java/lang/invoke/VarHandle" ∧ (parseMethodDescriptor yX11_clause.desc).map (fun d => d.parameters.length) = some 1 := by decide +kernel
set_option maxRecDepth 100000 in
set_option maxHeartbeats 4000000 in
theorem w_X11_clause_168 {p : Program} (l : Launch) {e : Env} {s : State} {m : MethodId} {args : Array Value} {below : List Frame} {meth : Method} {c : Code} {X : XT} (hinj : XInj X nM) (hZ : ZOK (Zm X)) (C : CX p s m args meth c cX11_clause 3 RX11 (some .int) X nM (Zm X)) (out : Int × S2) : ∀ (N : Nat), ∀ (x1 : Int) (x2 : Int) (S : S2) (H : Heap) (locs : List Loc) (ls : Array Slot), f_X11_clause_168 N x1 x2 S = some out → WH X shM nM s S H locs → lv_has ls 3 [(1, .int (iz x1)), (2, .int (iz x2))] → W p l e rmX11_clause s m args below meth c H locs 0 0 (QI X shM nM s args below out) (F0 m 168 ls []) := by
  intro N x1 x2 S H locs ls hf hw hl
  unfold f_X11_clause_168 at hf
  refine lv_iload_n C.1.1 C.1.2.1 dX11_clause_168 rfl (lv_at hl 0 rfl) ?_
  refine r_iconst (v := 1) C dX11_clause_169 ?_
  refine lv_iload_n C.1.1 C.1.2.1 dX11_clause_170 rfl (lv_at hl 1 rfl) ?_
  refine r_ishl C dX11_clause_171 ?_
  refine r_ior C dX11_clause_172 ?_
  exact r_retI C hw dX11_clause_173 hf
set_option maxRecDepth 100000 in
set_option maxHeartbeats 4000000 in
theorem w_X11_clause_96 {p : Program} (l : Launch) {e : Env} {s : State} {m : MethodId} {args : Array Value} {below : List Frame} {meth : Method} {c : Code} {X : XT} (hinj : XInj X nM) (hZ : ZOK (Zm X)) (C : CX p s m args meth c cX11_clause 3 RX11 (some .int) X nM (Zm X)) (out : Int × S2) : ∀ (N : Nat), ∀ (x1 : Int) (x2 : Int) (S : S2) (H : Heap) (locs : List Loc) (ls : Array Slot), f_X11_clause_96 N x1 x2 S = some out → WH X shM nM s S H locs → lv_has ls 3 [(0, .ref (X.2.2 0)), (1, .int (iz x1)), (2, .int (iz x2))] → W p l e rmX11_clause s m args below meth c H locs 0 0 (QI X shM nM s args below out) (F0 m 96 ls []) := by
  intro N x1 x2 S H locs ls hf hw hl
  unfold f_X11_clause_96 at hf
  refine lv_aload_n C.1.1 C.1.2.1 dX11_clause_96 rfl (lv_at hl 0 rfl) ?_
  refine r_callV (As := []) (rest := []) (rm := rmX11_next) C hw shM_0 ltM_0 cO11 tw6_92 tw6_94 tp_47 tw1_12 tw6_95 hd_X11_next rfl ⟨⟨rfl, rfl⟩, Nat.le_of_ble_eq_true rfl, Nat.le_of_ble_eq_true rfl⟩ hl.1 rfl (Nat.le_of_ble_eq_true rfl) dX11_clause_97 hf (fun o ho => c_X11_next l X hinj hZ N S o ho) (fun S97 H locs hf hw => ?_)
  refine lv_iload_n C.1.1 C.1.2.1 dX11_clause_100 rfl (lv_at hl 2 rfl) ?_
  obtain ⟨⟨hsw, -⟩, hf⟩ := cI_some hf
  rcases ite_some hf with ⟨hc101_0, hf⟩ | ⟨hc101_0, hf⟩
  · refine lv_tableIn (tgt := 128) C.1.1 C.1.2.1 dX11_clause_101 (by rw [hc101_0]; decide) (by rw [hc101_0]; decide) (by rw [hc101_0]; rfl) (by decide) ?_
    refine lv_aload_n C.1.1 C.1.2.1 dX11_clause_128 rfl (lv_at hl 0 rfl) ?_
    refine r_callV (As := []) (rest := []) (rm := rmX11_readSamples) C hw shM_0 ltM_0 cO11 tw6_139 tw6_141 tp_54 tw1_12 tw6_142 hd_X11_readSamples rfl ⟨⟨rfl, rfl⟩, Nat.le_of_ble_eq_true rfl, Nat.le_of_ble_eq_true rfl⟩ hl.1 rfl (Nat.le_of_ble_eq_true rfl) dX11_clause_129 hf (fun o ho => c_X11_readSamples l X hinj hZ N S97 o ho) (fun S129 H locs hf hw => ?_)
    refine lv_goto (tgt := 168) C.1.1 C.1.2.1 dX11_clause_132 (by decide) ?_
    exact (w_X11_clause_168 l hinj hZ C out N) x1 x2 S129 H locs ls hf hw (lv_sub hl [1, 2] rfl)
  · skip
    rcases ite_some hf with ⟨hc101_1, hf⟩ | ⟨hc101_1, hf⟩
    · refine lv_tableIn (tgt := 135) C.1.1 C.1.2.1 dX11_clause_101 (by rw [hc101_1]; decide) (by rw [hc101_1]; decide) (by rw [hc101_1]; rfl) (by decide) ?_
      refine lv_aload_n C.1.1 C.1.2.1 dX11_clause_135 rfl (lv_at hl 0 rfl) ?_
      refine lv_aload_n C.1.1 C.1.2.1 dX11_clause_136 rfl (lv_at hl 0 rfl) ?_
      refine r_iconst (v := 0) C dX11_clause_137 ?_
      refine r_sipush (v := 999) C dX11_clause_138 (by decide) ?_
      refine r_callI (As := [.int (iz 0), .int (iz 999)]) (rest := [.ref (X.2.2 0)]) (rm := rmX11_number) C hw shM_0 ltM_0 cO11 tw6_143 tw6_145 tp_55 tw1_12 tw6_146 hd_X11_number rfl ⟨⟨rfl, rfl⟩, Nat.le_of_ble_eq_true rfl, Nat.le_of_ble_eq_true rfl⟩ hl.1 rfl (Nat.le_of_ble_eq_true rfl) dX11_clause_141 hf (fun o ho => c_X11_number l X hinj hZ N S97 0 999 o ho) (fun v141 S141 H locs hf hw => ?_)
      refine r_putI (k := 17) C hw shM_0 ltM_0 cO11 rfl (by decide) tw5_161 rfl rfl rfl dX11_clause_144 hf (fun S144 H locs hf hw => ?_)
      refine lv_goto (tgt := 168) C.1.1 C.1.2.1 dX11_clause_147 (by decide) ?_
      exact (w_X11_clause_168 l hinj hZ C out N) x1 x2 S144 H locs ls hf hw (lv_sub hl [1, 2] rfl)
    · skip
      rcases ite_some hf with ⟨hc101_2, hf⟩ | ⟨hc101_2, hf⟩
      · refine lv_tableIn (tgt := 150) C.1.1 C.1.2.1 dX11_clause_101 (by rw [hc101_2]; decide) (by rw [hc101_2]; decide) (by rw [hc101_2]; rfl) (by decide) ?_
        refine lv_aload_n C.1.1 C.1.2.1 dX11_clause_150 rfl (lv_at hl 0 rfl) ?_
        refine lv_aload_n C.1.1 C.1.2.1 dX11_clause_151 rfl (lv_at hl 0 rfl) ?_
        refine r_iconst (v := 0) C dX11_clause_152 ?_
        refine r_bipush (v := 9) C dX11_clause_153 (by decide) ?_
        refine r_callI (As := [.int (iz 0), .int (iz 9)]) (rest := [.ref (X.2.2 0)]) (rm := rmX11_number) C hw shM_0 ltM_0 cO11 tw6_143 tw6_145 tp_55 tw1_12 tw6_146 hd_X11_number rfl ⟨⟨rfl, rfl⟩, Nat.le_of_ble_eq_true rfl, Nat.le_of_ble_eq_true rfl⟩ hl.1 rfl (Nat.le_of_ble_eq_true rfl) dX11_clause_155 hf (fun o ho => c_X11_number l X hinj hZ N S97 0 9 o ho) (fun v155 S155 H locs hf hw => ?_)
        refine r_putI (k := 18) C hw shM_0 ltM_0 cO11 rfl (by decide) tw5_162 rfl rfl rfl dX11_clause_158 hf (fun S158 H locs hf hw => ?_)
        refine lv_goto (tgt := 168) C.1.1 C.1.2.1 dX11_clause_161 (by decide) ?_
        exact (w_X11_clause_168 l hinj hZ C out N) x1 x2 S158 H locs ls hf hw (lv_sub hl [1, 2] rfl)
      · skip
        refine lv_tableOut (tgt := 164) C.1.1 C.1.2.1 dX11_clause_101 (by rw [sw_in hsw]; omega) (by decide) ?_
        refine lv_aload_n C.1.1 C.1.2.1 dX11_clause_164 rfl (lv_at hl 0 rfl) ?_
        refine r_callV (As := []) (rest := []) (rm := rmX11_readLine) C hw shM_0 ltM_0 cO11 tw6_147 tw6_149 tp_56 tw1_12 tw6_150 hd_X11_readLine rfl ⟨⟨rfl, rfl⟩, Nat.le_of_ble_eq_true rfl, Nat.le_of_ble_eq_true rfl⟩ hl.1 rfl (Nat.le_of_ble_eq_true rfl) dX11_clause_165 hf (fun o ho => c_X11_readLine l X hinj hZ N S97 o ho) (fun S165 H locs hf hw => ?_)
        exact (w_X11_clause_168 l hinj hZ C out N) x1 x2 S165 H locs ls hf hw (lv_sub hl [1, 2] rfl)
set_option maxRecDepth 100000 in
set_option maxHeartbeats 4000000 in
theorem w_X11_clause_90 {p : Program} (l : Launch) {e : Env} {s : State} {m : MethodId} {args : Array Value} {below : List Frame} {meth : Method} {c : Code} {X : XT} (hinj : XInj X nM) (hZ : ZOK (Zm X)) (C : CX p s m args meth c cX11_clause 3 RX11 (some .int) X nM (Zm X)) (out : Int × S2) : ∀ (N : Nat), ∀ (x1 : Int) (S : S2) (H : Heap) (locs : List Loc) (ls : Array Slot), f_X11_clause_90 N x1 S = some out → WH X shM nM s S H locs → lv_has ls 3 [(0, .ref (X.2.2 0)), (1, .int (iz x1))] → W p l e rmX11_clause s m args below meth c H locs 0 0 (QI X shM nM s args below out) (F0 m 90 ls []) := by
  intro N x1 S H locs ls hf hw hl
  unfold f_X11_clause_90 at hf
  refine lv_aload_n C.1.1 C.1.2.1 dX11_clause_90 rfl (lv_at hl 0 rfl) ?_
  refine r_callV (As := []) (rest := []) (rm := rmX11_bad) C hw shM_0 ltM_0 cO11 tw6_135 tw6_137 tp_53 tw1_12 tw6_138 hd_X11_bad rfl ⟨⟨rfl, rfl⟩, Nat.le_of_ble_eq_true rfl, Nat.le_of_ble_eq_true rfl⟩ hl.1 rfl (Nat.le_of_ble_eq_true rfl) dX11_clause_91 hf (fun o ho => c_X11_bad l X hinj hZ N S o ho) (fun S91 H locs hf hw => ?_)
  refine lv_iload_n C.1.1 C.1.2.1 dX11_clause_94 rfl (lv_at hl 1 rfl) ?_
  exact r_retI C hw dX11_clause_95 hf
set_option maxRecDepth 100000 in
set_option maxHeartbeats 4000000 in
theorem w_X11_clause_76 {p : Program} (l : Launch) {e : Env} {s : State} {m : MethodId} {args : Array Value} {below : List Frame} {meth : Method} {c : Code} {X : XT} (hinj : XInj X nM) (hZ : ZOK (Zm X)) (C : CX p s m args meth c cX11_clause 3 RX11 (some .int) X nM (Zm X)) (out : Int × S2) : ∀ (N : Nat), ∀ (x1 : Int) (x2 : Int) (S : S2) (H : Heap) (locs : List Loc) (ls : Array Slot), f_X11_clause_76 N x1 x2 S = some out → WH X shM nM s S H locs → lv_has ls 3 [(0, .ref (X.2.2 0)), (1, .int (iz x1)), (2, .int (iz x2))] → W p l e rmX11_clause s m args below meth c H locs 0 0 (QI X shM nM s args below out) (F0 m 76 ls []) := by
  intro N x1 x2 S H locs ls hf hw hl
  unfold f_X11_clause_76 at hf
  refine lv_iload_n C.1.1 C.1.2.1 dX11_clause_76 rfl (lv_at hl 2 rfl) ?_
  refine r_iconst (v := 3) C dX11_clause_77 ?_
  refine r_icmp_ne C (tgt := 96) dX11_clause_78 (by decide) hf (fun hf => ?_) (fun hf => ?_)
  · exact (w_X11_clause_96 l hinj hZ C out N) x1 x2 S H locs ls hf hw (lv_sub hl [0, 1, 2] rfl)
  · refine lv_aload_n C.1.1 C.1.2.1 dX11_clause_81 rfl (lv_at hl 0 rfl) ?_
    refine r_getI (k := 16) C hw shM_0 ltM_0 cO11 rfl (by decide) tw5_160 rfl dX11_clause_82 hf (fun v82 hf => ?_)
    refine r_bipush (v := 8) C dX11_clause_85 (by decide) ?_
    refine r_icmp_ne C (tgt := 96) dX11_clause_87 (by decide) hf (fun hf => ?_) (fun hf => ?_)
    · exact (w_X11_clause_96 l hinj hZ C out N) x1 x2 S H locs ls hf hw (lv_sub hl [0, 1, 2] rfl)
    · exact (w_X11_clause_90 l hinj hZ C out N) x1 S H locs ls hf hw (lv_sub hl [0, 1] rfl)
set_option maxRecDepth 100000 in
set_option maxHeartbeats 4000000 in
theorem w_X11_clause_57 {p : Program} (l : Launch) {e : Env} {s : State} {m : MethodId} {args : Array Value} {below : List Frame} {meth : Method} {c : Code} {X : XT} (hinj : XInj X nM) (hZ : ZOK (Zm X)) (C : CX p s m args meth c cX11_clause 3 RX11 (some .int) X nM (Zm X)) (out : Int × S2) : ∀ (N : Nat), ∀ (x1 : Int) (y0 : Int) (S : S2) (H : Heap) (locs : List Loc) (ls : Array Slot), f_X11_clause_57 N x1 y0 S = some out → WH X shM nM s S H locs → lv_has ls 3 [(0, .ref (X.2.2 0)), (1, .int (iz x1))] → W p l e rmX11_clause s m args below meth c H locs 0 0 (QI X shM nM s args below out) (F0 m 57 ls [.int (iz y0)]) := by
  intro N x1 y0 S H locs ls hf hw hl
  unfold f_X11_clause_57 at hf
  refine lv_istore_n (lv' := [(2, .int (iz y0)), (0, .ref (X.2.2 0)), (1, .int (iz x1))]) C.1.1 C.1.2.1 dX11_clause_57 rfl hl (by decide) rfl (fun ls hl => ?_)
  refine lv_iload_n C.1.1 C.1.2.1 dX11_clause_58 rfl (lv_at hl 0 rfl) ?_
  refine r_iconst (v := (-1)) C dX11_clause_59 ?_
  refine r_icmp_eq C (tgt := 90) dX11_clause_60 (by decide) hf (fun hf => ?_) (fun hf => ?_)
  · exact (w_X11_clause_90 l hinj hZ C out N) x1 S H locs ls hf hw (lv_sub hl [1, 2] rfl)
  · refine lv_iload_n C.1.1 C.1.2.1 dX11_clause_63 rfl (lv_at hl 0 rfl) ?_
    refine r_iconst (v := 3) C dX11_clause_64 ?_
    refine r_icmp_ge C (tgt := 76) dX11_clause_65 (by decide) hf (fun hf => ?_) (fun hf => ?_)
    · exact (w_X11_clause_76 l hinj hZ C out N) x1 y0 S H locs ls hf hw (lv_sub hl [1, 2, 0] rfl)
    · refine lv_iload_n C.1.1 C.1.2.1 dX11_clause_68 rfl (lv_at hl 2 rfl) ?_
      refine lv_iload_n C.1.1 C.1.2.1 dX11_clause_69 rfl (lv_at hl 0 rfl) ?_
      refine r_scallI (As := [.int (iz x1), .int (iz y0)]) (rest := []) (rm := rmX11_has) C hw tw6_132 tw6_133 tw1_12 tw6_134 hd_X11_has rfl ⟨⟨rfl, rfl⟩, Nat.le_of_ble_eq_true rfl, Nat.le_of_ble_eq_true rfl⟩ hl.1 rfl (Nat.le_of_ble_eq_true rfl) dX11_clause_70 hf (fun o ho => c_X11_has l X hinj hZ N S x1 y0 o ho) (fun v70 S70 H locs hf hw => ?_)
      refine r_if_ne C (tgt := 90) dX11_clause_73 (by decide) hf (fun hf => ?_) (fun hf => ?_)
      · exact (w_X11_clause_90 l hinj hZ C out N) x1 S70 H locs ls hf hw (lv_sub hl [1, 2] rfl)
      · exact (w_X11_clause_76 l hinj hZ C out N) x1 y0 S70 H locs ls hf hw (lv_sub hl [1, 2, 0] rfl)
set_option maxRecDepth 100000 in
set_option maxHeartbeats 4000000 in
theorem c_X11_clause (l : Launch) (X : XT) (hinj : XInj X nM) (hZ : ZOK (Zm X)) (N : Nat) (S : S2) (a1 : Int) (out : Int × S2) (hf : f_X11_clause N S a1 = some out) : MI l X shM nM (Zm X) yX11_clause cX11_clause 3 (some .int) rmX11_clause [.ref (X.2.2 0), .int (iz a1)] S out := by
  refine met_I (own := RX11) (by decide) rfl hinj hZ (Nat.le_of_ble_eq_true rfl) (fun p e s m args below meth c C ls H locs hw hl => ?_)
  unfold f_X11_clause at hf
  have hl : lv_has ls 3 [(0, .ref (X.2.2 0)), (1, .int (iz a1))] := hl
  refine lv_aload_n C.1.1 C.1.2.1 dX11_clause_0 rfl (lv_at hl 0 rfl) ?_
  refine r_gets C hw (v := .long 10983929) (fun A U H h => zm_W_TRACE h) tw6_120 dX11_clause_1 ?_
  refine r_callI (As := [.long (10983929 : Int64)]) (rest := []) (rm := rmX11_isWord) C hw shM_0 ltM_0 cO11 tw6_122 tw6_124 tp_52 tw1_12 tw6_125 hd_X11_isWord rfl ⟨⟨rfl, rfl⟩, Nat.le_of_ble_eq_true rfl, Nat.le_of_ble_eq_true rfl⟩ hl.1 rfl (Nat.le_of_ble_eq_true rfl) dX11_clause_4 hf (fun o ho => c_X11_isWord l X hinj hZ N S (10983929 : Int64) o ho) (fun v4 S4 H locs hf hw => ?_)
  refine r_if_eq C (tgt := 14) dX11_clause_7 (by decide) hf (fun hf => ?_) (fun hf => ?_)
  · refine lv_aload_n C.1.1 C.1.2.1 dX11_clause_14 rfl (lv_at hl 0 rfl) ?_
    refine r_gets C hw (v := .long 7742498) (fun A U H h => zm_W_NOISE h) tw6_126 dX11_clause_15 ?_
    refine r_callI (As := [.long (7742498 : Int64)]) (rest := []) (rm := rmX11_isWord) C hw shM_0 ltM_0 cO11 tw6_122 tw6_124 tp_52 tw1_12 tw6_125 hd_X11_isWord rfl ⟨⟨rfl, rfl⟩, Nat.le_of_ble_eq_true rfl, Nat.le_of_ble_eq_true rfl⟩ hl.1 rfl (Nat.le_of_ble_eq_true rfl) dX11_clause_18 hf (fun o ho => c_X11_isWord l X hinj hZ N S4 (7742498 : Int64) o ho) (fun v18 S18 H locs hf hw => ?_)
    refine r_if_eq C (tgt := 28) dX11_clause_21 (by decide) hf (fun hf => ?_) (fun hf => ?_)
    · refine lv_aload_n C.1.1 C.1.2.1 dX11_clause_28 rfl (lv_at hl 0 rfl) ?_
      refine r_gets C hw (v := .long 9665171) (fun A U H h => zm_W_REACH h) tw6_128 dX11_clause_29 ?_
      refine r_callI (As := [.long (9665171 : Int64)]) (rest := []) (rm := rmX11_isWord) C hw shM_0 ltM_0 cO11 tw6_122 tw6_124 tp_52 tw1_12 tw6_125 hd_X11_isWord rfl ⟨⟨rfl, rfl⟩, Nat.le_of_ble_eq_true rfl, Nat.le_of_ble_eq_true rfl⟩ hl.1 rfl (Nat.le_of_ble_eq_true rfl) dX11_clause_32 hf (fun o ho => c_X11_isWord l X hinj hZ N S18 (9665171 : Int64) o ho) (fun v32 S32 H locs hf hw => ?_)
      refine r_if_eq C (tgt := 42) dX11_clause_35 (by decide) hf (fun hf => ?_) (fun hf => ?_)
      · refine lv_aload_n C.1.1 C.1.2.1 dX11_clause_42 rfl (lv_at hl 0 rfl) ?_
        refine r_gets C hw (v := .long 243140) (fun A U H h => zm_W_LINE h) tw6_130 dX11_clause_43 ?_
        refine r_callI (As := [.long (243140 : Int64)]) (rest := []) (rm := rmX11_isWord) C hw shM_0 ltM_0 cO11 tw6_122 tw6_124 tp_52 tw1_12 tw6_125 hd_X11_isWord rfl ⟨⟨rfl, rfl⟩, Nat.le_of_ble_eq_true rfl, Nat.le_of_ble_eq_true rfl⟩ hl.1 rfl (Nat.le_of_ble_eq_true rfl) dX11_clause_46 hf (fun o ho => c_X11_isWord l X hinj hZ N S32 (243140 : Int64) o ho) (fun v46 S46 H locs hf hw => ?_)
        refine r_if_eq C (tgt := 56) dX11_clause_49 (by decide) hf (fun hf => ?_) (fun hf => ?_)
        · refine r_iconst (v := (-1)) C dX11_clause_56 ?_
          exact (w_X11_clause_57 l hinj hZ C out N) a1 (-1) S46 H locs ls hf hw (lv_sub hl [0, 1] rfl)
        · refine r_iconst (v := 3) C dX11_clause_52 ?_
          refine lv_goto (tgt := 57) C.1.1 C.1.2.1 dX11_clause_53 (by decide) ?_
          exact (w_X11_clause_57 l hinj hZ C out N) a1 3 S46 H locs ls hf hw (lv_sub hl [0, 1] rfl)
      · refine r_iconst (v := 2) C dX11_clause_38 ?_
        refine lv_goto (tgt := 57) C.1.1 C.1.2.1 dX11_clause_39 (by decide) ?_
        exact (w_X11_clause_57 l hinj hZ C out N) a1 2 S32 H locs ls hf hw (lv_sub hl [0, 1] rfl)
    · refine r_iconst (v := 1) C dX11_clause_24 ?_
      refine lv_goto (tgt := 57) C.1.1 C.1.2.1 dX11_clause_25 (by decide) ?_
      exact (w_X11_clause_57 l hinj hZ C out N) a1 1 S18 H locs ls hf hw (lv_sub hl [0, 1] rfl)
  · refine r_iconst (v := 0) C dX11_clause_10 ?_
    refine lv_goto (tgt := 57) C.1.1 C.1.2.1 dX11_clause_11 (by decide) ?_
    exact (w_X11_clause_57 l hinj hZ C out N) a1 0 S4 H locs ls hf hw (lv_sub hl [0, 1] rfl)
def f_X11_begins (N : Nat) (S : S2) : Option (S2) := uI S 0 3 0 fun S2 => uI S2 0 8 (-1) fun S7 => bV (f_X11_next N S7) fun S11 => rV S11
abbrev rmX11_begins : Room := { frames := 3, cells := 0, slots := 0, locals := 64 }
theorem hd_X11_begins : yX11_begins.cls ≠ "java/lang/invoke/MethodHandle" ∧ yX11_begins.cls ≠ "java/lang/invoke/VarHandle" ∧ (parseMethodDescriptor yX11_begins.desc).map (fun d => d.parameters.length) = some 0 := by decide +kernel
set_option maxRecDepth 100000 in
set_option maxHeartbeats 4000000 in
theorem c_X11_begins (l : Launch) (X : XT) (hinj : XInj X nM) (hZ : ZOK (Zm X)) (N : Nat) (S : S2) (out : S2) (hf : f_X11_begins N S = some out) : MV l X shM nM (Zm X) yX11_begins cX11_begins 1 none rmX11_begins [.ref (X.2.2 0)] S out := by
  refine met_V (own := RX11) (by decide) rfl hinj hZ (Nat.le_of_ble_eq_true rfl) (fun p e s m args below meth c C ls H locs hw hl => ?_)
  unfold f_X11_begins at hf
  have hl : lv_has ls 1 [(0, .ref (X.2.2 0))] := hl
  refine lv_aload_n C.1.1 C.1.2.1 dX11_begins_0 rfl (lv_at hl 0 rfl) ?_
  refine r_iconst (v := 0) C dX11_begins_1 ?_
  refine r_putI (k := 3) C hw shM_0 ltM_0 cO11 rfl (by decide) tw5_147 rfl rfl rfl dX11_begins_2 hf (fun S2 H locs hf hw => ?_)
  refine lv_aload_n C.1.1 C.1.2.1 dX11_begins_5 rfl (lv_at hl 0 rfl) ?_
  refine r_iconst (v := (-1)) C dX11_begins_6 ?_
  refine r_putI (k := 8) C hw shM_0 ltM_0 cO11 rfl (by decide) tw5_152 rfl rfl rfl dX11_begins_7 hf (fun S7 H locs hf hw => ?_)
  refine lv_aload_n C.1.1 C.1.2.1 dX11_begins_10 rfl (lv_at hl 0 rfl) ?_
  refine r_callV (As := []) (rest := []) (rm := rmX11_next) C hw shM_0 ltM_0 cO11 tw6_92 tw6_94 tp_47 tw1_12 tw6_95 hd_X11_next rfl ⟨⟨rfl, rfl⟩, Nat.le_of_ble_eq_true rfl, Nat.le_of_ble_eq_true rfl⟩ hl.1 rfl (Nat.le_of_ble_eq_true rfl) dX11_begins_11 hf (fun o ho => c_X11_next l X hinj hZ N S7 o ho) (fun S11 H locs hf hw => ?_)
  exact r_retV C hw dX11_begins_14 hf
def f_X11_readTrace_93 (N : Nat) (S : S2) : Option (Int × S2) := gI S 0 8 fun v94 => rI v94 S
def f_X11_readTrace_89 (N : Nat) (S : S2) : Option (Int × S2) := bV (f_X11_bad N S) fun S90 => (f_X11_readTrace_93 N) S90
def f_X11_readTrace_66 (N : Nat) (x1 : Int) (S : S2) : Option (Int × S2) := gI S 0 8 fun v67 => cI v67 (-1) (if v67 = (-1) then gI S 0 4 fun v75 => cI v75 0 (if v75 = 0 then bI (f_X11_has N S x1 0) fun v83 S83 => cI v83 0 (if v83 = 0 then (f_X11_readTrace_89 N) S83 else (f_X11_readTrace_93 N) S83) else (f_X11_readTrace_89 N) S) else (f_X11_readTrace_93 N) S)
def f_X11_readTrace_54 (k23 : Int → Int → S2 → Option (Int × S2)) (N : Nat) (x1 : Int) (y0 : Int) (S : S2) : Option (Int × S2) := cI y0 0 (if y0 = 0 then k23 x1 y0 S else bV (f_X11_next N S) fun S60 => k23 x1 y0 S60)
def f_X11_readTrace_53 (k23 : Int → Int → S2 → Option (Int × S2)) (N : Nat) (x1 : Int) (S : S2) : Option (Int × S2) := (f_X11_readTrace_54 k23 N) x1 0 S
def f_X11_readTrace_23 (k66 : Int → S2 → Option (Int × S2)) : Nat → Int → Int → S2 → Option (Int × S2)
  | 0, _, _, _ => none
  | N + 1, x1, x2, S => cI x2 0 (if x2 = 0 then k66 x1 S else bI (f_X11_clause N S x1) fun v29 S29 => gI S29 0 8 fun v34 => cI v34 (-1) (if v34 = (-1) then gI S29 0 4 fun v42 => cI v42 3 (if v42 = 3 then (f_X11_readTrace_54 (f_X11_readTrace_23 k66 N) N) v29 1 S29 else (f_X11_readTrace_53 (f_X11_readTrace_23 k66 N) N) v29 S29) else (f_X11_readTrace_53 (f_X11_readTrace_23 k66 N) N) v29 S29))
def f_X11_readTrace (N : Nat) (S : S2) : Option (Int × S2) := bV (f_X11_begins N S) fun S1 => uI S1 0 16 0 fun S6 => uI S6 0 17 0 fun S11 => uI S11 0 18 1 fun S16 => (f_X11_readTrace_23 (f_X11_readTrace_66 N) N) 0 1 S16
abbrev rmX11_readTrace : Room := { frames := 6, cells := 0, slots := 0, locals := 131 }
theorem hd_X11_readTrace : yX11_readTrace.cls ≠ "java/lang/invoke/MethodHandle" ∧ yX11_readTrace.cls ≠ "java/lang/invoke/VarHandle" ∧ (parseMethodDescriptor yX11_readTrace.desc).map (fun d => d.parameters.length) = some 0 := by decide +kernel
set_option maxRecDepth 100000 in
set_option maxHeartbeats 4000000 in
theorem w_X11_readTrace_93 {p : Program} (l : Launch) {e : Env} {s : State} {m : MethodId} {args : Array Value} {below : List Frame} {meth : Method} {c : Code} {X : XT} (hinj : XInj X nM) (hZ : ZOK (Zm X)) (C : CX p s m args meth c cX11_readTrace 3 RX11 (some .int) X nM (Zm X)) (out : Int × S2) : ∀ (N : Nat), ∀ (S : S2) (H : Heap) (locs : List Loc) (ls : Array Slot), f_X11_readTrace_93 N S = some out → WH X shM nM s S H locs → lv_has ls 3 [(0, .ref (X.2.2 0))] → W p l e rmX11_readTrace s m args below meth c H locs 0 0 (QI X shM nM s args below out) (F0 m 93 ls []) := by
  intro N S H locs ls hf hw hl
  unfold f_X11_readTrace_93 at hf
  refine lv_aload_n C.1.1 C.1.2.1 dX11_readTrace_93 rfl (lv_at hl 0 rfl) ?_
  refine r_getI (k := 8) C hw shM_0 ltM_0 cO11 rfl (by decide) tw5_152 rfl dX11_readTrace_94 hf (fun v94 hf => ?_)
  exact r_retI C hw dX11_readTrace_97 hf
set_option maxRecDepth 100000 in
set_option maxHeartbeats 4000000 in
theorem w_X11_readTrace_89 {p : Program} (l : Launch) {e : Env} {s : State} {m : MethodId} {args : Array Value} {below : List Frame} {meth : Method} {c : Code} {X : XT} (hinj : XInj X nM) (hZ : ZOK (Zm X)) (C : CX p s m args meth c cX11_readTrace 3 RX11 (some .int) X nM (Zm X)) (out : Int × S2) : ∀ (N : Nat), ∀ (S : S2) (H : Heap) (locs : List Loc) (ls : Array Slot), f_X11_readTrace_89 N S = some out → WH X shM nM s S H locs → lv_has ls 3 [(0, .ref (X.2.2 0))] → W p l e rmX11_readTrace s m args below meth c H locs 0 0 (QI X shM nM s args below out) (F0 m 89 ls []) := by
  intro N S H locs ls hf hw hl
  unfold f_X11_readTrace_89 at hf
  refine lv_aload_n C.1.1 C.1.2.1 dX11_readTrace_89 rfl (lv_at hl 0 rfl) ?_
  refine r_callV (As := []) (rest := []) (rm := rmX11_bad) C hw shM_0 ltM_0 cO11 tw6_135 tw6_137 tp_53 tw1_12 tw6_138 hd_X11_bad rfl ⟨⟨rfl, rfl⟩, Nat.le_of_ble_eq_true rfl, Nat.le_of_ble_eq_true rfl⟩ hl.1 rfl (Nat.le_of_ble_eq_true rfl) dX11_readTrace_90 hf (fun o ho => c_X11_bad l X hinj hZ N S o ho) (fun S90 H locs hf hw => ?_)
  exact (w_X11_readTrace_93 l hinj hZ C out N) S90 H locs ls hf hw (lv_sub hl [0] rfl)
set_option maxRecDepth 100000 in
set_option maxHeartbeats 4000000 in
theorem w_X11_readTrace_66 {p : Program} (l : Launch) {e : Env} {s : State} {m : MethodId} {args : Array Value} {below : List Frame} {meth : Method} {c : Code} {X : XT} (hinj : XInj X nM) (hZ : ZOK (Zm X)) (C : CX p s m args meth c cX11_readTrace 3 RX11 (some .int) X nM (Zm X)) (out : Int × S2) : ∀ (N : Nat), ∀ (x1 : Int) (S : S2) (H : Heap) (locs : List Loc) (ls : Array Slot), f_X11_readTrace_66 N x1 S = some out → WH X shM nM s S H locs → lv_has ls 3 [(0, .ref (X.2.2 0)), (1, .int (iz x1))] → W p l e rmX11_readTrace s m args below meth c H locs 0 0 (QI X shM nM s args below out) (F0 m 66 ls []) := by
  intro N x1 S H locs ls hf hw hl
  unfold f_X11_readTrace_66 at hf
  refine lv_aload_n C.1.1 C.1.2.1 dX11_readTrace_66 rfl (lv_at hl 0 rfl) ?_
  refine r_getI (k := 8) C hw shM_0 ltM_0 cO11 rfl (by decide) tw5_152 rfl dX11_readTrace_67 hf (fun v67 hf => ?_)
  refine r_iconst (v := (-1)) C dX11_readTrace_70 ?_
  refine r_icmp_ne C (tgt := 93) dX11_readTrace_71 (by decide) hf (fun hf => ?_) (fun hf => ?_)
  · exact (w_X11_readTrace_93 l hinj hZ C out N) S H locs ls hf hw (lv_sub hl [0] rfl)
  · refine lv_aload_n C.1.1 C.1.2.1 dX11_readTrace_74 rfl (lv_at hl 0 rfl) ?_
    refine r_getI (k := 4) C hw shM_0 ltM_0 cO11 rfl (by decide) tw5_148 rfl dX11_readTrace_75 hf (fun v75 hf => ?_)
    refine r_if_ne C (tgt := 89) dX11_readTrace_78 (by decide) hf (fun hf => ?_) (fun hf => ?_)
    · exact (w_X11_readTrace_89 l hinj hZ C out N) S H locs ls hf hw (lv_sub hl [0] rfl)
    · refine lv_iload_n C.1.1 C.1.2.1 dX11_readTrace_81 rfl (lv_at hl 1 rfl) ?_
      refine r_iconst (v := 0) C dX11_readTrace_82 ?_
      refine r_scallI (As := [.int (iz x1), .int (iz 0)]) (rest := []) (rm := rmX11_has) C hw tw6_132 tw6_133 tw1_12 tw6_134 hd_X11_has rfl ⟨⟨rfl, rfl⟩, Nat.le_of_ble_eq_true rfl, Nat.le_of_ble_eq_true rfl⟩ hl.1 rfl (Nat.le_of_ble_eq_true rfl) dX11_readTrace_83 hf (fun o ho => c_X11_has l X hinj hZ N S x1 0 o ho) (fun v83 S83 H locs hf hw => ?_)
      refine r_if_ne C (tgt := 93) dX11_readTrace_86 (by decide) hf (fun hf => ?_) (fun hf => ?_)
      · exact (w_X11_readTrace_93 l hinj hZ C out N) S83 H locs ls hf hw (lv_sub hl [0] rfl)
      · exact (w_X11_readTrace_89 l hinj hZ C out N) S83 H locs ls hf hw (lv_sub hl [0] rfl)
set_option maxRecDepth 100000 in
set_option maxHeartbeats 4000000 in
theorem w_X11_readTrace_54 {p : Program} (l : Launch) {e : Env} {s : State} {m : MethodId} {args : Array Value} {below : List Frame} {meth : Method} {c : Code} {X : XT} (hinj : XInj X nM) (hZ : ZOK (Zm X)) (C : CX p s m args meth c cX11_readTrace 3 RX11 (some .int) X nM (Zm X)) (out : Int × S2) (k23 : Int → Int → S2 → Option (Int × S2)) (hk23 : ∀ (x1 : Int) (x2 : Int) (S : S2) (H : Heap) (locs : List Loc) (ls : Array Slot), k23 x1 x2 S = some out → WH X shM nM s S H locs → lv_has ls 3 [(0, .ref (X.2.2 0)), (1, .int (iz x1)), (2, .int (iz x2))] → W p l e rmX11_readTrace s m args below meth c H locs 0 0 (QI X shM nM s args below out) (F0 m 23 ls [])) : ∀ (N : Nat), ∀ (x1 : Int) (y0 : Int) (S : S2) (H : Heap) (locs : List Loc) (ls : Array Slot), f_X11_readTrace_54 k23 N x1 y0 S = some out → WH X shM nM s S H locs → lv_has ls 3 [(0, .ref (X.2.2 0)), (1, .int (iz x1))] → W p l e rmX11_readTrace s m args below meth c H locs 0 0 (QI X shM nM s args below out) (F0 m 54 ls [.int (iz y0)]) := by
  intro N x1 y0 S H locs ls hf hw hl
  unfold f_X11_readTrace_54 at hf
  refine lv_istore_n (lv' := [(2, .int (iz y0)), (0, .ref (X.2.2 0)), (1, .int (iz x1))]) C.1.1 C.1.2.1 dX11_readTrace_54 rfl hl (by decide) rfl (fun ls hl => ?_)
  refine lv_iload_n C.1.1 C.1.2.1 dX11_readTrace_55 rfl (lv_at hl 0 rfl) ?_
  refine r_if_eq C (tgt := 23) dX11_readTrace_56 (by decide) hf (fun hf => ?_) (fun hf => ?_)
  · exact hk23 x1 y0 S H locs ls hf hw (lv_sub hl [1, 2, 0] rfl)
  · refine lv_aload_n C.1.1 C.1.2.1 dX11_readTrace_59 rfl (lv_at hl 1 rfl) ?_
    refine r_callV (As := []) (rest := []) (rm := rmX11_next) C hw shM_0 ltM_0 cO11 tw6_92 tw6_94 tp_47 tw1_12 tw6_95 hd_X11_next rfl ⟨⟨rfl, rfl⟩, Nat.le_of_ble_eq_true rfl, Nat.le_of_ble_eq_true rfl⟩ hl.1 rfl (Nat.le_of_ble_eq_true rfl) dX11_readTrace_60 hf (fun o ho => c_X11_next l X hinj hZ N S o ho) (fun S60 H locs hf hw => ?_)
    refine lv_goto (tgt := 23) C.1.1 C.1.2.1 dX11_readTrace_63 (by decide) ?_
    exact hk23 x1 y0 S60 H locs ls hf hw (lv_sub hl [1, 2, 0] rfl)
set_option maxRecDepth 100000 in
set_option maxHeartbeats 4000000 in
theorem w_X11_readTrace_53 {p : Program} (l : Launch) {e : Env} {s : State} {m : MethodId} {args : Array Value} {below : List Frame} {meth : Method} {c : Code} {X : XT} (hinj : XInj X nM) (hZ : ZOK (Zm X)) (C : CX p s m args meth c cX11_readTrace 3 RX11 (some .int) X nM (Zm X)) (out : Int × S2) (k23 : Int → Int → S2 → Option (Int × S2)) (hk23 : ∀ (x1 : Int) (x2 : Int) (S : S2) (H : Heap) (locs : List Loc) (ls : Array Slot), k23 x1 x2 S = some out → WH X shM nM s S H locs → lv_has ls 3 [(0, .ref (X.2.2 0)), (1, .int (iz x1)), (2, .int (iz x2))] → W p l e rmX11_readTrace s m args below meth c H locs 0 0 (QI X shM nM s args below out) (F0 m 23 ls [])) : ∀ (N : Nat), ∀ (x1 : Int) (S : S2) (H : Heap) (locs : List Loc) (ls : Array Slot), f_X11_readTrace_53 k23 N x1 S = some out → WH X shM nM s S H locs → lv_has ls 3 [(0, .ref (X.2.2 0)), (1, .int (iz x1))] → W p l e rmX11_readTrace s m args below meth c H locs 0 0 (QI X shM nM s args below out) (F0 m 53 ls []) := by
  intro N x1 S H locs ls hf hw hl
  unfold f_X11_readTrace_53 at hf
  refine r_iconst (v := 0) C dX11_readTrace_53 ?_
  exact (w_X11_readTrace_54 l hinj hZ C out k23 hk23 N) x1 0 S H locs ls hf hw (lv_sub hl [0, 1] rfl)
set_option maxRecDepth 100000 in
set_option maxHeartbeats 4000000 in
theorem w_X11_readTrace_23 {p : Program} (l : Launch) {e : Env} {s : State} {m : MethodId} {args : Array Value} {below : List Frame} {meth : Method} {c : Code} {X : XT} (hinj : XInj X nM) (hZ : ZOK (Zm X)) (C : CX p s m args meth c cX11_readTrace 3 RX11 (some .int) X nM (Zm X)) (out : Int × S2) (k66 : Int → S2 → Option (Int × S2)) (hk66 : ∀ (x1 : Int) (S : S2) (H : Heap) (locs : List Loc) (ls : Array Slot), k66 x1 S = some out → WH X shM nM s S H locs → lv_has ls 3 [(0, .ref (X.2.2 0)), (1, .int (iz x1))] → W p l e rmX11_readTrace s m args below meth c H locs 0 0 (QI X shM nM s args below out) (F0 m 66 ls [])) : ∀ (N : Nat), ∀ (x1 : Int) (x2 : Int) (S : S2) (H : Heap) (locs : List Loc) (ls : Array Slot), f_X11_readTrace_23 k66 N x1 x2 S = some out → WH X shM nM s S H locs → lv_has ls 3 [(0, .ref (X.2.2 0)), (1, .int (iz x1)), (2, .int (iz x2))] → W p l e rmX11_readTrace s m args below meth c H locs 0 0 (QI X shM nM s args below out) (F0 m 23 ls []) := by
  intro N
  induction N with
  | zero => intro x1 x2 S H locs ls hf hw hl; cases hf
  | succ N ih =>
    intro x1 x2 S H locs ls hf hw hl
    rw [f_X11_readTrace_23.eq_2] at hf
    refine lv_iload_n C.1.1 C.1.2.1 dX11_readTrace_23 rfl (lv_at hl 2 rfl) ?_
    refine r_if_eq C (tgt := 66) dX11_readTrace_24 (by decide) hf (fun hf => ?_) (fun hf => ?_)
    · exact hk66 x1 S H locs ls hf hw (lv_sub hl [0, 1] rfl)
    · refine lv_aload_n C.1.1 C.1.2.1 dX11_readTrace_27 rfl (lv_at hl 0 rfl) ?_
      refine lv_iload_n C.1.1 C.1.2.1 dX11_readTrace_28 rfl (lv_at hl 1 rfl) ?_
      refine r_callI (As := [.int (iz x1)]) (rest := []) (rm := rmX11_clause) C hw shM_0 ltM_0 cO11 tw6_116 tw6_118 tp_51 tw1_12 tw6_119 hd_X11_clause rfl ⟨⟨rfl, rfl⟩, Nat.le_of_ble_eq_true rfl, Nat.le_of_ble_eq_true rfl⟩ hl.1 rfl (Nat.le_of_ble_eq_true rfl) dX11_readTrace_29 hf (fun o ho => c_X11_clause l X hinj hZ N S x1 o ho) (fun v29 S29 H locs hf hw => ?_)
      refine lv_istore_n (lv' := [(1, .int (iz v29)), (0, .ref (X.2.2 0)), (2, .int (iz x2))]) C.1.1 C.1.2.1 dX11_readTrace_32 rfl hl (by decide) rfl (fun ls hl => ?_)
      refine lv_aload_n C.1.1 C.1.2.1 dX11_readTrace_33 rfl (lv_at hl 1 rfl) ?_
      refine r_getI (k := 8) C hw shM_0 ltM_0 cO11 rfl (by decide) tw5_152 rfl dX11_readTrace_34 hf (fun v34 hf => ?_)
      refine r_iconst (v := (-1)) C dX11_readTrace_37 ?_
      refine r_icmp_ne C (tgt := 53) dX11_readTrace_38 (by decide) hf (fun hf => ?_) (fun hf => ?_)
      · exact (w_X11_readTrace_53 l hinj hZ C out (f_X11_readTrace_23 k66 N) ih N) v29 S29 H locs ls hf hw (lv_sub hl [1, 0] rfl)
      · refine lv_aload_n C.1.1 C.1.2.1 dX11_readTrace_41 rfl (lv_at hl 1 rfl) ?_
        refine r_getI (k := 4) C hw shM_0 ltM_0 cO11 rfl (by decide) tw5_148 rfl dX11_readTrace_42 hf (fun v42 hf => ?_)
        refine r_iconst (v := 3) C dX11_readTrace_45 ?_
        refine r_icmp_ne C (tgt := 53) dX11_readTrace_46 (by decide) hf (fun hf => ?_) (fun hf => ?_)
        · exact (w_X11_readTrace_53 l hinj hZ C out (f_X11_readTrace_23 k66 N) ih N) v29 S29 H locs ls hf hw (lv_sub hl [1, 0] rfl)
        · refine r_iconst (v := 1) C dX11_readTrace_49 ?_
          refine lv_goto (tgt := 54) C.1.1 C.1.2.1 dX11_readTrace_50 (by decide) ?_
          exact (w_X11_readTrace_54 l hinj hZ C out (f_X11_readTrace_23 k66 N) ih N) v29 1 S29 H locs ls hf hw (lv_sub hl [1, 0] rfl)
set_option maxRecDepth 100000 in
set_option maxHeartbeats 4000000 in
theorem c_X11_readTrace (l : Launch) (X : XT) (hinj : XInj X nM) (hZ : ZOK (Zm X)) (N : Nat) (S : S2) (out : Int × S2) (hf : f_X11_readTrace N S = some out) : MI l X shM nM (Zm X) yX11_readTrace cX11_readTrace 3 (some .int) rmX11_readTrace [.ref (X.2.2 0)] S out := by
  refine met_I (own := RX11) (by decide) rfl hinj hZ (Nat.le_of_ble_eq_true rfl) (fun p e s m args below meth c C ls H locs hw hl => ?_)
  unfold f_X11_readTrace at hf
  have hl : lv_has ls 3 [(0, .ref (X.2.2 0))] := hl
  refine lv_aload_n C.1.1 C.1.2.1 dX11_readTrace_0 rfl (lv_at hl 0 rfl) ?_
  refine r_callV (As := []) (rest := []) (rm := rmX11_begins) C hw shM_0 ltM_0 cO11 tw6_88 tw6_90 tp_46 tw1_12 tw6_91 hd_X11_begins rfl ⟨⟨rfl, rfl⟩, Nat.le_of_ble_eq_true rfl, Nat.le_of_ble_eq_true rfl⟩ hl.1 rfl (Nat.le_of_ble_eq_true rfl) dX11_readTrace_1 hf (fun o ho => c_X11_begins l X hinj hZ N S o ho) (fun S1 H locs hf hw => ?_)
  refine lv_aload_n C.1.1 C.1.2.1 dX11_readTrace_4 rfl (lv_at hl 0 rfl) ?_
  refine r_iconst (v := 0) C dX11_readTrace_5 ?_
  refine r_putI (k := 16) C hw shM_0 ltM_0 cO11 rfl (by decide) tw5_160 rfl rfl rfl dX11_readTrace_6 hf (fun S6 H locs hf hw => ?_)
  refine lv_aload_n C.1.1 C.1.2.1 dX11_readTrace_9 rfl (lv_at hl 0 rfl) ?_
  refine r_iconst (v := 0) C dX11_readTrace_10 ?_
  refine r_putI (k := 17) C hw shM_0 ltM_0 cO11 rfl (by decide) tw5_161 rfl rfl rfl dX11_readTrace_11 hf (fun S11 H locs hf hw => ?_)
  refine lv_aload_n C.1.1 C.1.2.1 dX11_readTrace_14 rfl (lv_at hl 0 rfl) ?_
  refine r_iconst (v := 1) C dX11_readTrace_15 ?_
  refine r_putI (k := 18) C hw shM_0 ltM_0 cO11 rfl (by decide) tw5_162 rfl rfl rfl dX11_readTrace_16 hf (fun S16 H locs hf hw => ?_)
  refine r_iconst (v := 0) C dX11_readTrace_19 ?_
  refine lv_istore_n (lv' := [(1, .int (iz 0)), (0, .ref (X.2.2 0))]) C.1.1 C.1.2.1 dX11_readTrace_20 rfl hl (by decide) rfl (fun ls hl => ?_)
  refine r_iconst (v := 1) C dX11_readTrace_21 ?_
  refine lv_istore_n (lv' := [(2, .int (iz 1)), (1, .int (iz 0)), (0, .ref (X.2.2 0))]) C.1.1 C.1.2.1 dX11_readTrace_22 rfl hl (by decide) rfl (fun ls hl => ?_)
  exact (w_X11_readTrace_23 l hinj hZ C out (f_X11_readTrace_66 N) (w_X11_readTrace_66 l hinj hZ C out N) N) 0 1 S16 H locs ls hf hw (lv_sub hl [2, 1, 0] rfl)
def f_X11_wordOf (N : Nat) (S : S2) (a0 : Int) : Option (Int64 × S2) := cI a0 0 (if a0 = 0 then rL (279844694 : Int64) S else (if a0 = 1 then rL (189278330 : Int64) S else (if a0 = 2 then rL (126893 : Int64) S else (if a0 = 3 then rL (409469 : Int64) S else (if a0 = 4 then rL (68056 : Int64) S else (if a0 = 5 then rL (242939 : Int64) S else (if a0 = 6 then rL (10157486 : Int64) S else (if a0 = 7 then rL (14006 : Int64) S else (if a0 = 8 then rL (7742498 : Int64) S else rL (2774 : Int64) S)))))))))
abbrev rmX11_wordOf : Room := { frames := 0, cells := 0, slots := 0, locals := 0 }
theorem hd_X11_wordOf : yX11_wordOf.cls ≠ "java/lang/invoke/MethodHandle" ∧ yX11_wordOf.cls ≠ "java/lang/invoke/VarHandle" ∧ (parseMethodDescriptor yX11_wordOf.desc).map (fun d => d.parameters.length) = some 1 := by decide +kernel
set_option maxRecDepth 100000 in
set_option maxHeartbeats 4000000 in
theorem c_X11_wordOf (l : Launch) (X : XT) (hinj : XInj X nM) (hZ : ZOK (Zm X)) (N : Nat) (S : S2) (a0 : Int) (out : Int64 × S2) (hf : f_X11_wordOf N S a0 = some out) : ML l X shM nM (Zm X) yX11_wordOf cX11_wordOf 1 (some .long) rmX11_wordOf [.int (iz a0)] S out := by
  refine met_L (own := RX11) (by decide) rfl hinj hZ (Nat.le_of_ble_eq_true rfl) (fun p e s m args below meth c C ls H locs hw hl => ?_)
  unfold f_X11_wordOf at hf
  have hl : lv_has ls 1 [(0, .int (iz a0))] := hl
  refine lv_iload_n C.1.1 C.1.2.1 dX11_wordOf_0 rfl (lv_at hl 0 rfl) ?_
  obtain ⟨⟨hsw, -⟩, hf⟩ := cI_some hf
  rcases ite_some hf with ⟨hc1_0, hf⟩ | ⟨hc1_0, hf⟩
  · refine lv_tableIn (tgt := 52) C.1.1 C.1.2.1 dX11_wordOf_1 (by rw [hc1_0]; decide) (by rw [hc1_0]; decide) (by rw [hc1_0]; rfl) (by decide) ?_
    refine r_gets C hw (v := .long 279844694) (fun A U H h => zm_W_SMOOTH h) tw6_162 dX11_wordOf_52 ?_
    exact r_retL C hw dX11_wordOf_55 hf
  · skip
    rcases ite_some hf with ⟨hc1_1, hf⟩ | ⟨hc1_1, hf⟩
    · refine lv_tableIn (tgt := 56) C.1.1 C.1.2.1 dX11_wordOf_1 (by rw [hc1_1]; decide) (by rw [hc1_1]; decide) (by rw [hc1_1]; rfl) (by decide) ?_
      refine r_gets C hw (v := .long 189278330) (fun A U H h => zm_W_MEDIAN h) tw6_164 dX11_wordOf_56 ?_
      exact r_retL C hw dX11_wordOf_59 hf
    · skip
      rcases ite_some hf with ⟨hc1_2, hf⟩ | ⟨hc1_2, hf⟩
      · refine lv_tableIn (tgt := 60) C.1.1 C.1.2.1 dX11_wordOf_1 (by rw [hc1_2]; decide) (by rw [hc1_2]; decide) (by rw [hc1_2]; rfl) (by decide) ?_
        refine r_gets C hw (v := .long 126893) (fun A U H h => zm_W_FLAT h) tw6_166 dX11_wordOf_60 ?_
        exact r_retL C hw dX11_wordOf_63 hf
      · skip
        rcases ite_some hf with ⟨hc1_3, hf⟩ | ⟨hc1_3, hf⟩
        · refine lv_tableIn (tgt := 64) C.1.1 C.1.2.1 dX11_wordOf_1 (by rw [hc1_3]; decide) (by rw [hc1_3]; decide) (by rw [hc1_3]; rfl) (by decide) ?_
          refine r_gets C hw (v := .long 409469) (fun A U H h => zm_W_TURN h) tw6_168 dX11_wordOf_64 ?_
          exact r_retL C hw dX11_wordOf_67 hf
        · skip
          rcases ite_some hf with ⟨hc1_4, hf⟩ | ⟨hc1_4, hf⟩
          · refine lv_tableIn (tgt := 68) C.1.1 C.1.2.1 dX11_wordOf_1 (by rw [hc1_4]; decide) (by rw [hc1_4]; decide) (by rw [hc1_4]; rfl) (by decide) ?_
            refine r_gets C hw (v := .long 68056) (fun A U H h => zm_W_CLIP h) tw6_170 dX11_wordOf_68 ?_
            exact r_retL C hw dX11_wordOf_71 hf
          · skip
            rcases ite_some hf with ⟨hc1_5, hf⟩ | ⟨hc1_5, hf⟩
            · refine lv_tableIn (tgt := 72) C.1.1 C.1.2.1 dX11_wordOf_1 (by rw [hc1_5]; decide) (by rw [hc1_5]; decide) (by rw [hc1_5]; rfl) (by decide) ?_
              refine r_gets C hw (v := .long 242939) (fun A U H h => zm_W_LIFT h) tw6_172 dX11_wordOf_72 ?_
              exact r_retL C hw dX11_wordOf_75 hf
            · skip
              rcases ite_some hf with ⟨hc1_6, hf⟩ | ⟨hc1_6, hf⟩
              · refine lv_tableIn (tgt := 76) C.1.1 C.1.2.1 dX11_wordOf_1 (by rw [hc1_6]; decide) (by rw [hc1_6]; decide) (by rw [hc1_6]; rfl) (by decide) ?_
                refine r_gets C hw (v := .long 10157486) (fun A U H h => zm_W_SCALE h) tw6_174 dX11_wordOf_76 ?_
                exact r_retL C hw dX11_wordOf_79 hf
              · skip
                rcases ite_some hf with ⟨hc1_7, hf⟩ | ⟨hc1_7, hf⟩
                · refine lv_tableIn (tgt := 80) C.1.1 C.1.2.1 dX11_wordOf_1 (by rw [hc1_7]; decide) (by rw [hc1_7]; decide) (by rw [hc1_7]; rfl) (by decide) ?_
                  refine r_gets C hw (v := .long 14006) (fun A U H h => zm_W_SET h) tw6_176 dX11_wordOf_80 ?_
                  exact r_retL C hw dX11_wordOf_83 hf
                · skip
                  rcases ite_some hf with ⟨hc1_8, hf⟩ | ⟨hc1_8, hf⟩
                  · refine lv_tableIn (tgt := 84) C.1.1 C.1.2.1 dX11_wordOf_1 (by rw [hc1_8]; decide) (by rw [hc1_8]; decide) (by rw [hc1_8]; rfl) (by decide) ?_
                    refine r_gets C hw (v := .long 7742498) (fun A U H h => zm_W_NOISE h) tw6_126 dX11_wordOf_84 ?_
                    exact r_retL C hw dX11_wordOf_87 hf
                  · skip
                    refine lv_tableOut (tgt := 88) C.1.1 C.1.2.1 dX11_wordOf_1 (by rw [sw_in hsw]; omega) (by decide) ?_
                    refine r_gets C hw (v := .long 2774) (fun A U H h => zm_W_CUT h) tw6_178 dX11_wordOf_88 ?_
                    exact r_retL C hw dX11_wordOf_91 hf
def f_X11_numbersOf_25 (N : Nat) (S : S2) : Option (Int × S2) := rI 1 S
def f_X11_numbersOf (N : Nat) (S : S2) (a0 : Int) : Option (Int × S2) := cI a0 3 (if 3 < a0 then cI a0 4 (if a0 = 4 then (f_X11_numbersOf_25 N) S else cI a0 5 (if a0 = 5 then (f_X11_numbersOf_25 N) S else cI a0 8 (if a0 = 8 then (f_X11_numbersOf_25 N) S else rI 2 S))) else rI 0 S)
abbrev rmX11_numbersOf : Room := { frames := 0, cells := 0, slots := 0, locals := 0 }
theorem hd_X11_numbersOf : yX11_numbersOf.cls ≠ "java/lang/invoke/MethodHandle" ∧ yX11_numbersOf.cls ≠ "java/lang/invoke/VarHandle" ∧ (parseMethodDescriptor yX11_numbersOf.desc).map (fun d => d.parameters.length) = some 1 := by decide +kernel
set_option maxRecDepth 100000 in
set_option maxHeartbeats 4000000 in
theorem w_X11_numbersOf_25 {p : Program} (l : Launch) {e : Env} {s : State} {m : MethodId} {args : Array Value} {below : List Frame} {meth : Method} {c : Code} {X : XT} (hinj : XInj X nM) (hZ : ZOK (Zm X)) (C : CX p s m args meth c cX11_numbersOf 1 RX11 (some .int) X nM (Zm X)) (out : Int × S2) : ∀ (N : Nat), ∀ (S : S2) (H : Heap) (locs : List Loc) (ls : Array Slot), f_X11_numbersOf_25 N S = some out → WH X shM nM s S H locs → lv_has ls 1 [] → W p l e rmX11_numbersOf s m args below meth c H locs 0 0 (QI X shM nM s args below out) (F0 m 25 ls []) := by
  intro N S H locs ls hf hw hl
  unfold f_X11_numbersOf_25 at hf
  refine r_iconst (v := 1) C dX11_numbersOf_25 ?_
  refine lv_goto (tgt := 30) C.1.1 C.1.2.1 dX11_numbersOf_26 (by decide) ?_
  exact r_retI C hw dX11_numbersOf_30 hf
set_option maxRecDepth 100000 in
set_option maxHeartbeats 4000000 in
theorem c_X11_numbersOf (l : Launch) (X : XT) (hinj : XInj X nM) (hZ : ZOK (Zm X)) (N : Nat) (S : S2) (a0 : Int) (out : Int × S2) (hf : f_X11_numbersOf N S a0 = some out) : MI l X shM nM (Zm X) yX11_numbersOf cX11_numbersOf 1 (some .int) rmX11_numbersOf [.int (iz a0)] S out := by
  refine met_I (own := RX11) (by decide) rfl hinj hZ (Nat.le_of_ble_eq_true rfl) (fun p e s m args below meth c C ls H locs hw hl => ?_)
  unfold f_X11_numbersOf at hf
  have hl : lv_has ls 1 [(0, .int (iz a0))] := hl
  refine lv_iload_n C.1.1 C.1.2.1 dX11_numbersOf_0 rfl (lv_at hl 0 rfl) ?_
  refine r_iconst (v := 3) C dX11_numbersOf_1 ?_
  refine r_icmp_gt C (tgt := 9) dX11_numbersOf_2 (by decide) hf (fun hf => ?_) (fun hf => ?_)
  · refine lv_iload_n C.1.1 C.1.2.1 dX11_numbersOf_9 rfl (lv_at hl 0 rfl) ?_
    refine r_iconst (v := 4) C dX11_numbersOf_10 ?_
    refine r_icmp_eq C (tgt := 25) dX11_numbersOf_11 (by decide) hf (fun hf => ?_) (fun hf => ?_)
    · exact (w_X11_numbersOf_25 l hinj hZ C out N) S H locs ls hf hw (lv_sub hl [] rfl)
    · refine lv_iload_n C.1.1 C.1.2.1 dX11_numbersOf_14 rfl (lv_at hl 0 rfl) ?_
      refine r_iconst (v := 5) C dX11_numbersOf_15 ?_
      refine r_icmp_eq C (tgt := 25) dX11_numbersOf_16 (by decide) hf (fun hf => ?_) (fun hf => ?_)
      · exact (w_X11_numbersOf_25 l hinj hZ C out N) S H locs ls hf hw (lv_sub hl [] rfl)
      · refine lv_iload_n C.1.1 C.1.2.1 dX11_numbersOf_19 rfl (lv_at hl 0 rfl) ?_
        refine r_bipush (v := 8) C dX11_numbersOf_20 (by decide) ?_
        refine r_icmp_ne C (tgt := 29) dX11_numbersOf_22 (by decide) hf (fun hf => ?_) (fun hf => ?_)
        · refine r_iconst (v := 2) C dX11_numbersOf_29 ?_
          exact r_retI C hw dX11_numbersOf_30 hf
        · exact (w_X11_numbersOf_25 l hinj hZ C out N) S H locs ls hf hw (lv_sub hl [] rfl)
  · refine r_iconst (v := 0) C dX11_numbersOf_5 ?_
    refine lv_goto (tgt := 30) C.1.1 C.1.2.1 dX11_numbersOf_6 (by decide) ?_
    exact r_retI C hw dX11_numbersOf_30 hf
def f_X11_readStep_118 (k56 : Int → Int → Int → S2 → Option (S2)) (N : Nat) (x1 : Int) (x2 : Int) (x3 : Int) (S : S2) : Option (S2) := k56 x1 x2 (x3 + 1) S
def f_X11_readStep_95 (k56 : Int → Int → Int → S2 → Option (S2)) (N : Nat) (x1 : Int) (x2 : Int) (x3 : Int) (S : S2) : Option (S2) := bV (f_X11_bad N S) fun S96 => (f_X11_readStep_118 k56 N) x1 x2 x3 S96
def f_X11_readStep_56 : Nat → Int → Int → Int → S2 → Option (S2)
  | 0, _, _, _, _ => none
  | N + 1, x1, x2, x3, S => cI x3 3 (if 3 ≤ x3 then rV S else sI S 6 180 (x1 + x3) (-1000000) fun S70 => bI (f_X11_numbersOf N S70 x2) fun v73 S73 => cI x3 v73 (if v73 < x3 then (f_X11_readStep_118 (f_X11_readStep_56 N) N) x1 x2 x3 S73 else gI S73 0 8 fun v80 => cI v80 (-1) (if v80 = (-1) then gI S73 0 4 fun v88 => cI v88 2 (if v88 = 2 then gI S73 0 6 fun v110 => sI S73 6 180 (x1 + x3) v110 fun S113 => bV (f_X11_next N S113) fun S115 => (f_X11_readStep_118 (f_X11_readStep_56 N) N) x1 x2 x3 S115 else (f_X11_readStep_95 (f_X11_readStep_56 N) N) x1 x2 x3 S73) else (f_X11_readStep_95 (f_X11_readStep_56 N) N) x1 x2 x3 S73)))
def f_X11_readStep_33 (N : Nat) (x1 : Int) (x2 : Int) (S : S2) : Option (S2) := cI x2 (-1) (if x2 = (-1) then bV (f_X11_bad N S) fun S39 => rV S39 else bV (f_X11_next N S) fun S44 => sI S44 6 180 x1 x2 fun S53 => (f_X11_readStep_56 N) x1 x2 1 S53)
def f_X11_readStep_26 (k4 : Int → Int → Int → S2 → Option (S2)) (N : Nat) (x1 : Int) (x3 : Int) (y0 : Int) (S : S2) : Option (S2) := k4 x1 y0 (x3 + 1) S
def f_X11_readStep_4 (k33 : Int → Int → S2 → Option (S2)) : Nat → Int → Int → Int → S2 → Option (S2)
  | 0, _, _, _, _ => none
  | N + 1, x1, x2, x3, S => cI x3 10 (if 10 ≤ x3 then k33 x1 x2 S else bI (f_X11_wordOf N S x3) fun v12 S12 => bI (f_X11_isWord N S12 v12) fun v15 S15 => cI v15 0 (if v15 = 0 then (f_X11_readStep_26 (f_X11_readStep_4 k33 N) N) x1 x3 x2 S15 else (f_X11_readStep_26 (f_X11_readStep_4 k33 N) N) x1 x3 x3 S15))
def f_X11_readStep (N : Nat) (S : S2) (a1 : Int) : Option (S2) := (f_X11_readStep_4 (f_X11_readStep_33 N) N) a1 (-1) 0 S
abbrev rmX11_readStep : Room := { frames := 3, cells := 0, slots := 0, locals := 64 }
theorem hd_X11_readStep : yX11_readStep.cls ≠ "java/lang/invoke/MethodHandle" ∧ yX11_readStep.cls ≠ "java/lang/invoke/VarHandle" ∧ (parseMethodDescriptor yX11_readStep.desc).map (fun d => d.parameters.length) = some 1 := by decide +kernel
set_option maxRecDepth 100000 in
set_option maxHeartbeats 4000000 in
theorem w_X11_readStep_118 {p : Program} (l : Launch) {e : Env} {s : State} {m : MethodId} {args : Array Value} {below : List Frame} {meth : Method} {c : Code} {X : XT} (hinj : XInj X nM) (hZ : ZOK (Zm X)) (C : CX p s m args meth c cX11_readStep 4 RX11 none X nM (Zm X)) (out : S2) (k56 : Int → Int → Int → S2 → Option (S2)) (hk56 : ∀ (x1 : Int) (x2 : Int) (x3 : Int) (S : S2) (H : Heap) (locs : List Loc) (ls : Array Slot), k56 x1 x2 x3 S = some out → WH X shM nM s S H locs → lv_has ls 4 [(0, .ref (X.2.2 0)), (1, .int (iz x1)), (2, .int (iz x2)), (3, .int (iz x3))] → W p l e rmX11_readStep s m args below meth c H locs 0 0 (QV X shM nM s args below out) (F0 m 56 ls [])) : ∀ (N : Nat), ∀ (x1 : Int) (x2 : Int) (x3 : Int) (S : S2) (H : Heap) (locs : List Loc) (ls : Array Slot), f_X11_readStep_118 k56 N x1 x2 x3 S = some out → WH X shM nM s S H locs → lv_has ls 4 [(0, .ref (X.2.2 0)), (1, .int (iz x1)), (2, .int (iz x2)), (3, .int (iz x3))] → W p l e rmX11_readStep s m args below meth c H locs 0 0 (QV X shM nM s args below out) (F0 m 118 ls []) := by
  intro N x1 x2 x3 S H locs ls hf hw hl
  unfold f_X11_readStep_118 at hf
  refine lv_iinc (v := iz (x3 + 1)) (lv' := [(3, .int (iz (x3 + 1))), (0, .ref (X.2.2 0)), (1, .int (iz x1)), (2, .int (iz x2))]) C.1.1 C.1.2.1 dX11_readStep_118 hl (k := 3) rfl (iz_add _ _) (by decide) rfl (fun ls hl => ?_)
  refine lv_goto (tgt := 56) C.1.1 C.1.2.1 dX11_readStep_121 (by decide) ?_
  exact hk56 x1 x2 (x3 + 1) S H locs ls hf hw (lv_sub hl [1, 2, 3, 0] rfl)
set_option maxRecDepth 100000 in
set_option maxHeartbeats 4000000 in
theorem w_X11_readStep_95 {p : Program} (l : Launch) {e : Env} {s : State} {m : MethodId} {args : Array Value} {below : List Frame} {meth : Method} {c : Code} {X : XT} (hinj : XInj X nM) (hZ : ZOK (Zm X)) (C : CX p s m args meth c cX11_readStep 4 RX11 none X nM (Zm X)) (out : S2) (k56 : Int → Int → Int → S2 → Option (S2)) (hk56 : ∀ (x1 : Int) (x2 : Int) (x3 : Int) (S : S2) (H : Heap) (locs : List Loc) (ls : Array Slot), k56 x1 x2 x3 S = some out → WH X shM nM s S H locs → lv_has ls 4 [(0, .ref (X.2.2 0)), (1, .int (iz x1)), (2, .int (iz x2)), (3, .int (iz x3))] → W p l e rmX11_readStep s m args below meth c H locs 0 0 (QV X shM nM s args below out) (F0 m 56 ls [])) : ∀ (N : Nat), ∀ (x1 : Int) (x2 : Int) (x3 : Int) (S : S2) (H : Heap) (locs : List Loc) (ls : Array Slot), f_X11_readStep_95 k56 N x1 x2 x3 S = some out → WH X shM nM s S H locs → lv_has ls 4 [(0, .ref (X.2.2 0)), (1, .int (iz x1)), (2, .int (iz x2)), (3, .int (iz x3))] → W p l e rmX11_readStep s m args below meth c H locs 0 0 (QV X shM nM s args below out) (F0 m 95 ls []) := by
  intro N x1 x2 x3 S H locs ls hf hw hl
  unfold f_X11_readStep_95 at hf
  refine lv_aload_n C.1.1 C.1.2.1 dX11_readStep_95 rfl (lv_at hl 0 rfl) ?_
  refine r_callV (As := []) (rest := []) (rm := rmX11_bad) C hw shM_0 ltM_0 cO11 tw6_135 tw6_137 tp_53 tw1_12 tw6_138 hd_X11_bad rfl ⟨⟨rfl, rfl⟩, Nat.le_of_ble_eq_true rfl, Nat.le_of_ble_eq_true rfl⟩ hl.1 rfl (Nat.le_of_ble_eq_true rfl) dX11_readStep_96 hf (fun o ho => c_X11_bad l X hinj hZ N S o ho) (fun S96 H locs hf hw => ?_)
  refine lv_goto (tgt := 118) C.1.1 C.1.2.1 dX11_readStep_99 (by decide) ?_
  exact (w_X11_readStep_118 l hinj hZ C out k56 hk56 N) x1 x2 x3 S96 H locs ls hf hw (lv_sub hl [0, 1, 2, 3] rfl)
set_option maxRecDepth 100000 in
set_option maxHeartbeats 4000000 in
theorem w_X11_readStep_56 {p : Program} (l : Launch) {e : Env} {s : State} {m : MethodId} {args : Array Value} {below : List Frame} {meth : Method} {c : Code} {X : XT} (hinj : XInj X nM) (hZ : ZOK (Zm X)) (C : CX p s m args meth c cX11_readStep 4 RX11 none X nM (Zm X)) (out : S2) : ∀ (N : Nat), ∀ (x1 : Int) (x2 : Int) (x3 : Int) (S : S2) (H : Heap) (locs : List Loc) (ls : Array Slot), f_X11_readStep_56 N x1 x2 x3 S = some out → WH X shM nM s S H locs → lv_has ls 4 [(0, .ref (X.2.2 0)), (1, .int (iz x1)), (2, .int (iz x2)), (3, .int (iz x3))] → W p l e rmX11_readStep s m args below meth c H locs 0 0 (QV X shM nM s args below out) (F0 m 56 ls []) := by
  intro N
  induction N with
  | zero => intro x1 x2 x3 S H locs ls hf hw hl; cases hf
  | succ N ih =>
    intro x1 x2 x3 S H locs ls hf hw hl
    rw [f_X11_readStep_56.eq_2] at hf
    refine lv_iload_n C.1.1 C.1.2.1 dX11_readStep_56 rfl (lv_at hl 3 rfl) ?_
    refine r_iconst (v := 3) C dX11_readStep_57 ?_
    refine r_icmp_ge C (tgt := 124) dX11_readStep_58 (by decide) hf (fun hf => ?_) (fun hf => ?_)
    · exact r_retV C hw dX11_readStep_124 hf
    · refine lv_aload_n C.1.1 C.1.2.1 dX11_readStep_61 rfl (lv_at hl 0 rfl) ?_
      refine r_getR (k := 19) C hw shM_0 ltM_0 cO11 rfl (by decide) tw5_163 rfl dX11_readStep_62 ?_
      refine lv_iload_n C.1.1 C.1.2.1 dX11_readStep_65 rfl (lv_at hl 1 rfl) ?_
      refine lv_iload_n C.1.1 C.1.2.1 dX11_readStep_66 rfl (lv_at hl 3 rfl) ?_
      refine r_iadd C dX11_readStep_67 ?_
      refine r_ldc (v := (-1000000)) C tw6_180 (by decide) dX11_readStep_68 ?_
      refine r_iast C hw shM_6 ltM_6 (Nat.le_of_ble_eq_true rfl) dX11_readStep_70 hf (fun S70 H locs hf hw => ?_)
      refine lv_iload_n C.1.1 C.1.2.1 dX11_readStep_71 rfl (lv_at hl 3 rfl) ?_
      refine lv_iload_n C.1.1 C.1.2.1 dX11_readStep_72 rfl (lv_at hl 2 rfl) ?_
      refine r_scallI (As := [.int (iz x2)]) (rest := [.int (iz x3)]) (rm := rmX11_numbersOf) C hw tw6_181 tw6_182 tw1_12 tw6_183 hd_X11_numbersOf rfl ⟨⟨rfl, rfl⟩, Nat.le_of_ble_eq_true rfl, Nat.le_of_ble_eq_true rfl⟩ hl.1 rfl (Nat.le_of_ble_eq_true rfl) dX11_readStep_73 hf (fun o ho => c_X11_numbersOf l X hinj hZ N S70 x2 o ho) (fun v73 S73 H locs hf hw => ?_)
      refine r_icmp_gt C (tgt := 118) dX11_readStep_76 (by decide) hf (fun hf => ?_) (fun hf => ?_)
      · exact (w_X11_readStep_118 l hinj hZ C out (f_X11_readStep_56 N) ih N) x1 x2 x3 S73 H locs ls hf hw (lv_sub hl [0, 1, 2, 3] rfl)
      · refine lv_aload_n C.1.1 C.1.2.1 dX11_readStep_79 rfl (lv_at hl 0 rfl) ?_
        refine r_getI (k := 8) C hw shM_0 ltM_0 cO11 rfl (by decide) tw5_152 rfl dX11_readStep_80 hf (fun v80 hf => ?_)
        refine r_iconst (v := (-1)) C dX11_readStep_83 ?_
        refine r_icmp_ne C (tgt := 95) dX11_readStep_84 (by decide) hf (fun hf => ?_) (fun hf => ?_)
        · exact (w_X11_readStep_95 l hinj hZ C out (f_X11_readStep_56 N) ih N) x1 x2 x3 S73 H locs ls hf hw (lv_sub hl [0, 1, 2, 3] rfl)
        · refine lv_aload_n C.1.1 C.1.2.1 dX11_readStep_87 rfl (lv_at hl 0 rfl) ?_
          refine r_getI (k := 4) C hw shM_0 ltM_0 cO11 rfl (by decide) tw5_148 rfl dX11_readStep_88 hf (fun v88 hf => ?_)
          refine r_iconst (v := 2) C dX11_readStep_91 ?_
          refine r_icmp_eq C (tgt := 102) dX11_readStep_92 (by decide) hf (fun hf => ?_) (fun hf => ?_)
          · refine lv_aload_n C.1.1 C.1.2.1 dX11_readStep_102 rfl (lv_at hl 0 rfl) ?_
            refine r_getR (k := 19) C hw shM_0 ltM_0 cO11 rfl (by decide) tw5_163 rfl dX11_readStep_103 ?_
            refine lv_iload_n C.1.1 C.1.2.1 dX11_readStep_106 rfl (lv_at hl 1 rfl) ?_
            refine lv_iload_n C.1.1 C.1.2.1 dX11_readStep_107 rfl (lv_at hl 3 rfl) ?_
            refine r_iadd C dX11_readStep_108 ?_
            refine lv_aload_n C.1.1 C.1.2.1 dX11_readStep_109 rfl (lv_at hl 0 rfl) ?_
            refine r_getI (k := 6) C hw shM_0 ltM_0 cO11 rfl (by decide) tw5_150 rfl dX11_readStep_110 hf (fun v110 hf => ?_)
            refine r_iast C hw shM_6 ltM_6 (Nat.le_of_ble_eq_true rfl) dX11_readStep_113 hf (fun S113 H locs hf hw => ?_)
            refine lv_aload_n C.1.1 C.1.2.1 dX11_readStep_114 rfl (lv_at hl 0 rfl) ?_
            refine r_callV (As := []) (rest := []) (rm := rmX11_next) C hw shM_0 ltM_0 cO11 tw6_92 tw6_94 tp_47 tw1_12 tw6_95 hd_X11_next rfl ⟨⟨rfl, rfl⟩, Nat.le_of_ble_eq_true rfl, Nat.le_of_ble_eq_true rfl⟩ hl.1 rfl (Nat.le_of_ble_eq_true rfl) dX11_readStep_115 hf (fun o ho => c_X11_next l X hinj hZ N S113 o ho) (fun S115 H locs hf hw => ?_)
            exact (w_X11_readStep_118 l hinj hZ C out (f_X11_readStep_56 N) ih N) x1 x2 x3 S115 H locs ls hf hw (lv_sub hl [0, 1, 2, 3] rfl)
          · exact (w_X11_readStep_95 l hinj hZ C out (f_X11_readStep_56 N) ih N) x1 x2 x3 S73 H locs ls hf hw (lv_sub hl [0, 1, 2, 3] rfl)
set_option maxRecDepth 100000 in
set_option maxHeartbeats 4000000 in
theorem w_X11_readStep_33 {p : Program} (l : Launch) {e : Env} {s : State} {m : MethodId} {args : Array Value} {below : List Frame} {meth : Method} {c : Code} {X : XT} (hinj : XInj X nM) (hZ : ZOK (Zm X)) (C : CX p s m args meth c cX11_readStep 4 RX11 none X nM (Zm X)) (out : S2) : ∀ (N : Nat), ∀ (x1 : Int) (x2 : Int) (S : S2) (H : Heap) (locs : List Loc) (ls : Array Slot), f_X11_readStep_33 N x1 x2 S = some out → WH X shM nM s S H locs → lv_has ls 4 [(0, .ref (X.2.2 0)), (1, .int (iz x1)), (2, .int (iz x2))] → W p l e rmX11_readStep s m args below meth c H locs 0 0 (QV X shM nM s args below out) (F0 m 33 ls []) := by
  intro N x1 x2 S H locs ls hf hw hl
  unfold f_X11_readStep_33 at hf
  refine lv_iload_n C.1.1 C.1.2.1 dX11_readStep_33 rfl (lv_at hl 2 rfl) ?_
  refine r_iconst (v := (-1)) C dX11_readStep_34 ?_
  refine r_icmp_ne C (tgt := 43) dX11_readStep_35 (by decide) hf (fun hf => ?_) (fun hf => ?_)
  · refine lv_aload_n C.1.1 C.1.2.1 dX11_readStep_43 rfl (lv_at hl 0 rfl) ?_
    refine r_callV (As := []) (rest := []) (rm := rmX11_next) C hw shM_0 ltM_0 cO11 tw6_92 tw6_94 tp_47 tw1_12 tw6_95 hd_X11_next rfl ⟨⟨rfl, rfl⟩, Nat.le_of_ble_eq_true rfl, Nat.le_of_ble_eq_true rfl⟩ hl.1 rfl (Nat.le_of_ble_eq_true rfl) dX11_readStep_44 hf (fun o ho => c_X11_next l X hinj hZ N S o ho) (fun S44 H locs hf hw => ?_)
    refine lv_aload_n C.1.1 C.1.2.1 dX11_readStep_47 rfl (lv_at hl 0 rfl) ?_
    refine r_getR (k := 19) C hw shM_0 ltM_0 cO11 rfl (by decide) tw5_163 rfl dX11_readStep_48 ?_
    refine lv_iload_n C.1.1 C.1.2.1 dX11_readStep_51 rfl (lv_at hl 1 rfl) ?_
    refine lv_iload_n C.1.1 C.1.2.1 dX11_readStep_52 rfl (lv_at hl 2 rfl) ?_
    refine r_iast C hw shM_6 ltM_6 (Nat.le_of_ble_eq_true rfl) dX11_readStep_53 hf (fun S53 H locs hf hw => ?_)
    refine r_iconst (v := 1) C dX11_readStep_54 ?_
    refine lv_istore_n (lv' := [(3, .int (iz 1)), (0, .ref (X.2.2 0)), (1, .int (iz x1)), (2, .int (iz x2))]) C.1.1 C.1.2.1 dX11_readStep_55 rfl hl (by decide) rfl (fun ls hl => ?_)
    exact (w_X11_readStep_56 l hinj hZ C out N) x1 x2 1 S53 H locs ls hf hw (lv_sub hl [1, 2, 3, 0] rfl)
  · refine lv_aload_n C.1.1 C.1.2.1 dX11_readStep_38 rfl (lv_at hl 0 rfl) ?_
    refine r_callV (As := []) (rest := []) (rm := rmX11_bad) C hw shM_0 ltM_0 cO11 tw6_135 tw6_137 tp_53 tw1_12 tw6_138 hd_X11_bad rfl ⟨⟨rfl, rfl⟩, Nat.le_of_ble_eq_true rfl, Nat.le_of_ble_eq_true rfl⟩ hl.1 rfl (Nat.le_of_ble_eq_true rfl) dX11_readStep_39 hf (fun o ho => c_X11_bad l X hinj hZ N S o ho) (fun S39 H locs hf hw => ?_)
    exact r_retV C hw dX11_readStep_42 hf
set_option maxRecDepth 100000 in
set_option maxHeartbeats 4000000 in
theorem w_X11_readStep_26 {p : Program} (l : Launch) {e : Env} {s : State} {m : MethodId} {args : Array Value} {below : List Frame} {meth : Method} {c : Code} {X : XT} (hinj : XInj X nM) (hZ : ZOK (Zm X)) (C : CX p s m args meth c cX11_readStep 4 RX11 none X nM (Zm X)) (out : S2) (k4 : Int → Int → Int → S2 → Option (S2)) (hk4 : ∀ (x1 : Int) (x2 : Int) (x3 : Int) (S : S2) (H : Heap) (locs : List Loc) (ls : Array Slot), k4 x1 x2 x3 S = some out → WH X shM nM s S H locs → lv_has ls 4 [(0, .ref (X.2.2 0)), (1, .int (iz x1)), (2, .int (iz x2)), (3, .int (iz x3))] → W p l e rmX11_readStep s m args below meth c H locs 0 0 (QV X shM nM s args below out) (F0 m 4 ls [])) : ∀ (N : Nat), ∀ (x1 : Int) (x3 : Int) (y0 : Int) (S : S2) (H : Heap) (locs : List Loc) (ls : Array Slot), f_X11_readStep_26 k4 N x1 x3 y0 S = some out → WH X shM nM s S H locs → lv_has ls 4 [(0, .ref (X.2.2 0)), (1, .int (iz x1)), (3, .int (iz x3))] → W p l e rmX11_readStep s m args below meth c H locs 0 0 (QV X shM nM s args below out) (F0 m 26 ls [.int (iz y0)]) := by
  intro N x1 x3 y0 S H locs ls hf hw hl
  unfold f_X11_readStep_26 at hf
  refine lv_istore_n (lv' := [(2, .int (iz y0)), (0, .ref (X.2.2 0)), (1, .int (iz x1)), (3, .int (iz x3))]) C.1.1 C.1.2.1 dX11_readStep_26 rfl hl (by decide) rfl (fun ls hl => ?_)
  refine lv_iinc (v := iz (x3 + 1)) (lv' := [(3, .int (iz (x3 + 1))), (2, .int (iz y0)), (0, .ref (X.2.2 0)), (1, .int (iz x1))]) C.1.1 C.1.2.1 dX11_readStep_27 hl (k := 3) rfl (iz_add _ _) (by decide) rfl (fun ls hl => ?_)
  refine lv_goto (tgt := 4) C.1.1 C.1.2.1 dX11_readStep_30 (by decide) ?_
  exact hk4 x1 y0 (x3 + 1) S H locs ls hf hw (lv_sub hl [2, 3, 1, 0] rfl)
set_option maxRecDepth 100000 in
set_option maxHeartbeats 4000000 in
theorem w_X11_readStep_4 {p : Program} (l : Launch) {e : Env} {s : State} {m : MethodId} {args : Array Value} {below : List Frame} {meth : Method} {c : Code} {X : XT} (hinj : XInj X nM) (hZ : ZOK (Zm X)) (C : CX p s m args meth c cX11_readStep 4 RX11 none X nM (Zm X)) (out : S2) (k33 : Int → Int → S2 → Option (S2)) (hk33 : ∀ (x1 : Int) (x2 : Int) (S : S2) (H : Heap) (locs : List Loc) (ls : Array Slot), k33 x1 x2 S = some out → WH X shM nM s S H locs → lv_has ls 4 [(0, .ref (X.2.2 0)), (1, .int (iz x1)), (2, .int (iz x2))] → W p l e rmX11_readStep s m args below meth c H locs 0 0 (QV X shM nM s args below out) (F0 m 33 ls [])) : ∀ (N : Nat), ∀ (x1 : Int) (x2 : Int) (x3 : Int) (S : S2) (H : Heap) (locs : List Loc) (ls : Array Slot), f_X11_readStep_4 k33 N x1 x2 x3 S = some out → WH X shM nM s S H locs → lv_has ls 4 [(0, .ref (X.2.2 0)), (1, .int (iz x1)), (2, .int (iz x2)), (3, .int (iz x3))] → W p l e rmX11_readStep s m args below meth c H locs 0 0 (QV X shM nM s args below out) (F0 m 4 ls []) := by
  intro N
  induction N with
  | zero => intro x1 x2 x3 S H locs ls hf hw hl; cases hf
  | succ N ih =>
    intro x1 x2 x3 S H locs ls hf hw hl
    rw [f_X11_readStep_4.eq_2] at hf
    refine lv_iload_n C.1.1 C.1.2.1 dX11_readStep_4 rfl (lv_at hl 3 rfl) ?_
    refine r_bipush (v := 10) C dX11_readStep_5 (by decide) ?_
    refine r_icmp_ge C (tgt := 33) dX11_readStep_7 (by decide) hf (fun hf => ?_) (fun hf => ?_)
    · exact hk33 x1 x2 S H locs ls hf hw (lv_sub hl [0, 1, 2] rfl)
    · refine lv_aload_n C.1.1 C.1.2.1 dX11_readStep_10 rfl (lv_at hl 0 rfl) ?_
      refine lv_iload_n C.1.1 C.1.2.1 dX11_readStep_11 rfl (lv_at hl 3 rfl) ?_
      refine r_scallL (As := [.int (iz x3)]) (rest := [.ref (X.2.2 0)]) (rm := rmX11_wordOf) C hw tw6_159 tw6_160 tw1_12 tw6_161 hd_X11_wordOf rfl ⟨⟨rfl, rfl⟩, Nat.le_of_ble_eq_true rfl, Nat.le_of_ble_eq_true rfl⟩ hl.1 rfl (Nat.le_of_ble_eq_true rfl) dX11_readStep_12 hf (fun o ho => c_X11_wordOf l X hinj hZ N S x3 o ho) (fun v12 S12 H locs hf hw => ?_)
      refine r_callI (As := [.long v12]) (rest := []) (rm := rmX11_isWord) C hw shM_0 ltM_0 cO11 tw6_122 tw6_124 tp_52 tw1_12 tw6_125 hd_X11_isWord rfl ⟨⟨rfl, rfl⟩, Nat.le_of_ble_eq_true rfl, Nat.le_of_ble_eq_true rfl⟩ hl.1 rfl (Nat.le_of_ble_eq_true rfl) dX11_readStep_15 hf (fun o ho => c_X11_isWord l X hinj hZ N S12 v12 o ho) (fun v15 S15 H locs hf hw => ?_)
      refine r_if_eq C (tgt := 25) dX11_readStep_18 (by decide) hf (fun hf => ?_) (fun hf => ?_)
      · refine lv_iload_n C.1.1 C.1.2.1 dX11_readStep_25 rfl (lv_at hl 2 rfl) ?_
        exact (w_X11_readStep_26 l hinj hZ C out (f_X11_readStep_4 k33 N) ih N) x1 x3 x2 S15 H locs ls hf hw (lv_sub hl [0, 1, 3] rfl)
      · refine lv_iload_n C.1.1 C.1.2.1 dX11_readStep_21 rfl (lv_at hl 3 rfl) ?_
        refine lv_goto (tgt := 26) C.1.1 C.1.2.1 dX11_readStep_22 (by decide) ?_
        exact (w_X11_readStep_26 l hinj hZ C out (f_X11_readStep_4 k33 N) ih N) x1 x3 x3 S15 H locs ls hf hw (lv_sub hl [0, 1, 3] rfl)
set_option maxRecDepth 100000 in
set_option maxHeartbeats 4000000 in
theorem c_X11_readStep (l : Launch) (X : XT) (hinj : XInj X nM) (hZ : ZOK (Zm X)) (N : Nat) (S : S2) (a1 : Int) (out : S2) (hf : f_X11_readStep N S a1 = some out) : MV l X shM nM (Zm X) yX11_readStep cX11_readStep 4 none rmX11_readStep [.ref (X.2.2 0), .int (iz a1)] S out := by
  refine met_V (own := RX11) (by decide) rfl hinj hZ (Nat.le_of_ble_eq_true rfl) (fun p e s m args below meth c C ls H locs hw hl => ?_)
  unfold f_X11_readStep at hf
  have hl : lv_has ls 4 [(0, .ref (X.2.2 0)), (1, .int (iz a1))] := hl
  refine r_iconst (v := (-1)) C dX11_readStep_0 ?_
  refine lv_istore_n (lv' := [(2, .int (iz (-1))), (0, .ref (X.2.2 0)), (1, .int (iz a1))]) C.1.1 C.1.2.1 dX11_readStep_1 rfl hl (by decide) rfl (fun ls hl => ?_)
  refine r_iconst (v := 0) C dX11_readStep_2 ?_
  refine lv_istore_n (lv' := [(3, .int (iz 0)), (2, .int (iz (-1))), (0, .ref (X.2.2 0)), (1, .int (iz a1))]) C.1.1 C.1.2.1 dX11_readStep_3 rfl hl (by decide) rfl (fun ls hl => ?_)
  exact (w_X11_readStep_4 l hinj hZ C out (f_X11_readStep_33 N) (w_X11_readStep_33 l hinj hZ C out N) N) a1 (-1) 0 S H locs ls hf hw (lv_sub hl [2, 3, 1, 0] rfl)
def f_X11_readScript_107 (N : Nat) (S : S2) : Option (Int × S2) := gI S 0 8 fun v108 => rI v108 S
def f_X11_readScript_88 (N : Nat) (S : S2) : Option (Int × S2) := gI S 0 8 fun v89 => cI v89 (-1) (if v89 = (-1) then gI S 0 4 fun v97 => cI v97 0 (if v97 = 0 then (f_X11_readScript_107 N) S else bV (f_X11_bad N S) fun S104 => (f_X11_readScript_107 N) S104) else (f_X11_readScript_107 N) S)
def f_X11_readScript_76 (k13 : Int → Int → S2 → Option (Int × S2)) (N : Nat) (x1 : Int) (y0 : Int) (S : S2) : Option (Int × S2) := cI y0 0 (if y0 = 0 then k13 x1 y0 S else bV (f_X11_next N S) fun S82 => k13 x1 y0 S82)
def f_X11_readScript_75 (k13 : Int → Int → S2 → Option (Int × S2)) (N : Nat) (x1 : Int) (S : S2) : Option (Int × S2) := (f_X11_readScript_76 k13 N) x1 0 S
def f_X11_readScript_13 (k88 : S2 → Option (Int × S2)) : Nat → Int → Int → S2 → Option (Int × S2)
  | 0, _, _, _ => none
  | N + 1, x1, x2, S => cI x2 0 (if x2 = 0 then k88 S else aI S 7 5 x1 fun v28 => bV (f_X11_readStep N S (3 * ((12 * x1) + v28))) fun S31 => aI S31 7 5 x1 fun v40 => sI S31 7 5 x1 (v40 + 1) fun S43 => gI S43 0 8 fun v45 => cI v45 (-1) (if v45 = (-1) then gI S43 0 4 fun v53 => cI v53 3 (if v53 = 3 then aI S43 7 5 x1 fun v65 => cI v65 12 (if 12 ≤ v65 then (f_X11_readScript_75 (f_X11_readScript_13 k88 N) N) x1 S43 else (f_X11_readScript_76 (f_X11_readScript_13 k88 N) N) x1 1 S43) else (f_X11_readScript_75 (f_X11_readScript_13 k88 N) N) x1 S43) else (f_X11_readScript_75 (f_X11_readScript_13 k88 N) N) x1 S43))
def f_X11_readScript (N : Nat) (S : S2) (a1 : Int) : Option (Int × S2) := bV (f_X11_begins N S) fun S1 => sI S1 7 5 a1 0 fun S10 => (f_X11_readScript_13 (f_X11_readScript_88 N) N) a1 1 S10
abbrev rmX11_readScript : Room := { frames := 4, cells := 0, slots := 0, locals := 87 }
theorem hd_X11_readScript : yX11_readScript.cls ≠ "java/lang/invoke/MethodHandle" ∧ yX11_readScript.cls ≠ "java/lang/invoke/VarHandle" ∧ (parseMethodDescriptor yX11_readScript.desc).map (fun d => d.parameters.length) = some 1 := by decide +kernel
set_option maxRecDepth 100000 in
set_option maxHeartbeats 4000000 in
theorem w_X11_readScript_107 {p : Program} (l : Launch) {e : Env} {s : State} {m : MethodId} {args : Array Value} {below : List Frame} {meth : Method} {c : Code} {X : XT} (hinj : XInj X nM) (hZ : ZOK (Zm X)) (C : CX p s m args meth c cX11_readScript 3 RX11 (some .int) X nM (Zm X)) (out : Int × S2) : ∀ (N : Nat), ∀ (S : S2) (H : Heap) (locs : List Loc) (ls : Array Slot), f_X11_readScript_107 N S = some out → WH X shM nM s S H locs → lv_has ls 3 [(0, .ref (X.2.2 0))] → W p l e rmX11_readScript s m args below meth c H locs 0 0 (QI X shM nM s args below out) (F0 m 107 ls []) := by
  intro N S H locs ls hf hw hl
  unfold f_X11_readScript_107 at hf
  refine lv_aload_n C.1.1 C.1.2.1 dX11_readScript_107 rfl (lv_at hl 0 rfl) ?_
  refine r_getI (k := 8) C hw shM_0 ltM_0 cO11 rfl (by decide) tw5_152 rfl dX11_readScript_108 hf (fun v108 hf => ?_)
  exact r_retI C hw dX11_readScript_111 hf
set_option maxRecDepth 100000 in
set_option maxHeartbeats 4000000 in
theorem w_X11_readScript_88 {p : Program} (l : Launch) {e : Env} {s : State} {m : MethodId} {args : Array Value} {below : List Frame} {meth : Method} {c : Code} {X : XT} (hinj : XInj X nM) (hZ : ZOK (Zm X)) (C : CX p s m args meth c cX11_readScript 3 RX11 (some .int) X nM (Zm X)) (out : Int × S2) : ∀ (N : Nat), ∀ (S : S2) (H : Heap) (locs : List Loc) (ls : Array Slot), f_X11_readScript_88 N S = some out → WH X shM nM s S H locs → lv_has ls 3 [(0, .ref (X.2.2 0))] → W p l e rmX11_readScript s m args below meth c H locs 0 0 (QI X shM nM s args below out) (F0 m 88 ls []) := by
  intro N S H locs ls hf hw hl
  unfold f_X11_readScript_88 at hf
  refine lv_aload_n C.1.1 C.1.2.1 dX11_readScript_88 rfl (lv_at hl 0 rfl) ?_
  refine r_getI (k := 8) C hw shM_0 ltM_0 cO11 rfl (by decide) tw5_152 rfl dX11_readScript_89 hf (fun v89 hf => ?_)
  refine r_iconst (v := (-1)) C dX11_readScript_92 ?_
  refine r_icmp_ne C (tgt := 107) dX11_readScript_93 (by decide) hf (fun hf => ?_) (fun hf => ?_)
  · exact (w_X11_readScript_107 l hinj hZ C out N) S H locs ls hf hw (lv_sub hl [0] rfl)
  · refine lv_aload_n C.1.1 C.1.2.1 dX11_readScript_96 rfl (lv_at hl 0 rfl) ?_
    refine r_getI (k := 4) C hw shM_0 ltM_0 cO11 rfl (by decide) tw5_148 rfl dX11_readScript_97 hf (fun v97 hf => ?_)
    refine r_if_eq C (tgt := 107) dX11_readScript_100 (by decide) hf (fun hf => ?_) (fun hf => ?_)
    · exact (w_X11_readScript_107 l hinj hZ C out N) S H locs ls hf hw (lv_sub hl [0] rfl)
    · refine lv_aload_n C.1.1 C.1.2.1 dX11_readScript_103 rfl (lv_at hl 0 rfl) ?_
      refine r_callV (As := []) (rest := []) (rm := rmX11_bad) C hw shM_0 ltM_0 cO11 tw6_135 tw6_137 tp_53 tw1_12 tw6_138 hd_X11_bad rfl ⟨⟨rfl, rfl⟩, Nat.le_of_ble_eq_true rfl, Nat.le_of_ble_eq_true rfl⟩ hl.1 rfl (Nat.le_of_ble_eq_true rfl) dX11_readScript_104 hf (fun o ho => c_X11_bad l X hinj hZ N S o ho) (fun S104 H locs hf hw => ?_)
      exact (w_X11_readScript_107 l hinj hZ C out N) S104 H locs ls hf hw (lv_sub hl [0] rfl)
set_option maxRecDepth 100000 in
set_option maxHeartbeats 4000000 in
theorem w_X11_readScript_76 {p : Program} (l : Launch) {e : Env} {s : State} {m : MethodId} {args : Array Value} {below : List Frame} {meth : Method} {c : Code} {X : XT} (hinj : XInj X nM) (hZ : ZOK (Zm X)) (C : CX p s m args meth c cX11_readScript 3 RX11 (some .int) X nM (Zm X)) (out : Int × S2) (k13 : Int → Int → S2 → Option (Int × S2)) (hk13 : ∀ (x1 : Int) (x2 : Int) (S : S2) (H : Heap) (locs : List Loc) (ls : Array Slot), k13 x1 x2 S = some out → WH X shM nM s S H locs → lv_has ls 3 [(0, .ref (X.2.2 0)), (1, .int (iz x1)), (2, .int (iz x2))] → W p l e rmX11_readScript s m args below meth c H locs 0 0 (QI X shM nM s args below out) (F0 m 13 ls [])) : ∀ (N : Nat), ∀ (x1 : Int) (y0 : Int) (S : S2) (H : Heap) (locs : List Loc) (ls : Array Slot), f_X11_readScript_76 k13 N x1 y0 S = some out → WH X shM nM s S H locs → lv_has ls 3 [(0, .ref (X.2.2 0)), (1, .int (iz x1))] → W p l e rmX11_readScript s m args below meth c H locs 0 0 (QI X shM nM s args below out) (F0 m 76 ls [.int (iz y0)]) := by
  intro N x1 y0 S H locs ls hf hw hl
  unfold f_X11_readScript_76 at hf
  refine lv_istore_n (lv' := [(2, .int (iz y0)), (0, .ref (X.2.2 0)), (1, .int (iz x1))]) C.1.1 C.1.2.1 dX11_readScript_76 rfl hl (by decide) rfl (fun ls hl => ?_)
  refine lv_iload_n C.1.1 C.1.2.1 dX11_readScript_77 rfl (lv_at hl 0 rfl) ?_
  refine r_if_eq C (tgt := 13) dX11_readScript_78 (by decide) hf (fun hf => ?_) (fun hf => ?_)
  · exact hk13 x1 y0 S H locs ls hf hw (lv_sub hl [1, 2, 0] rfl)
  · refine lv_aload_n C.1.1 C.1.2.1 dX11_readScript_81 rfl (lv_at hl 1 rfl) ?_
    refine r_callV (As := []) (rest := []) (rm := rmX11_next) C hw shM_0 ltM_0 cO11 tw6_92 tw6_94 tp_47 tw1_12 tw6_95 hd_X11_next rfl ⟨⟨rfl, rfl⟩, Nat.le_of_ble_eq_true rfl, Nat.le_of_ble_eq_true rfl⟩ hl.1 rfl (Nat.le_of_ble_eq_true rfl) dX11_readScript_82 hf (fun o ho => c_X11_next l X hinj hZ N S o ho) (fun S82 H locs hf hw => ?_)
    refine lv_goto (tgt := 13) C.1.1 C.1.2.1 dX11_readScript_85 (by decide) ?_
    exact hk13 x1 y0 S82 H locs ls hf hw (lv_sub hl [1, 2, 0] rfl)
set_option maxRecDepth 100000 in
set_option maxHeartbeats 4000000 in
theorem w_X11_readScript_75 {p : Program} (l : Launch) {e : Env} {s : State} {m : MethodId} {args : Array Value} {below : List Frame} {meth : Method} {c : Code} {X : XT} (hinj : XInj X nM) (hZ : ZOK (Zm X)) (C : CX p s m args meth c cX11_readScript 3 RX11 (some .int) X nM (Zm X)) (out : Int × S2) (k13 : Int → Int → S2 → Option (Int × S2)) (hk13 : ∀ (x1 : Int) (x2 : Int) (S : S2) (H : Heap) (locs : List Loc) (ls : Array Slot), k13 x1 x2 S = some out → WH X shM nM s S H locs → lv_has ls 3 [(0, .ref (X.2.2 0)), (1, .int (iz x1)), (2, .int (iz x2))] → W p l e rmX11_readScript s m args below meth c H locs 0 0 (QI X shM nM s args below out) (F0 m 13 ls [])) : ∀ (N : Nat), ∀ (x1 : Int) (S : S2) (H : Heap) (locs : List Loc) (ls : Array Slot), f_X11_readScript_75 k13 N x1 S = some out → WH X shM nM s S H locs → lv_has ls 3 [(0, .ref (X.2.2 0)), (1, .int (iz x1))] → W p l e rmX11_readScript s m args below meth c H locs 0 0 (QI X shM nM s args below out) (F0 m 75 ls []) := by
  intro N x1 S H locs ls hf hw hl
  unfold f_X11_readScript_75 at hf
  refine r_iconst (v := 0) C dX11_readScript_75 ?_
  exact (w_X11_readScript_76 l hinj hZ C out k13 hk13 N) x1 0 S H locs ls hf hw (lv_sub hl [0, 1] rfl)
set_option maxRecDepth 100000 in
set_option maxHeartbeats 4000000 in
theorem w_X11_readScript_13 {p : Program} (l : Launch) {e : Env} {s : State} {m : MethodId} {args : Array Value} {below : List Frame} {meth : Method} {c : Code} {X : XT} (hinj : XInj X nM) (hZ : ZOK (Zm X)) (C : CX p s m args meth c cX11_readScript 3 RX11 (some .int) X nM (Zm X)) (out : Int × S2) (k88 : S2 → Option (Int × S2)) (hk88 : ∀ (S : S2) (H : Heap) (locs : List Loc) (ls : Array Slot), k88 S = some out → WH X shM nM s S H locs → lv_has ls 3 [(0, .ref (X.2.2 0))] → W p l e rmX11_readScript s m args below meth c H locs 0 0 (QI X shM nM s args below out) (F0 m 88 ls [])) : ∀ (N : Nat), ∀ (x1 : Int) (x2 : Int) (S : S2) (H : Heap) (locs : List Loc) (ls : Array Slot), f_X11_readScript_13 k88 N x1 x2 S = some out → WH X shM nM s S H locs → lv_has ls 3 [(0, .ref (X.2.2 0)), (1, .int (iz x1)), (2, .int (iz x2))] → W p l e rmX11_readScript s m args below meth c H locs 0 0 (QI X shM nM s args below out) (F0 m 13 ls []) := by
  intro N
  induction N with
  | zero => intro x1 x2 S H locs ls hf hw hl; cases hf
  | succ N ih =>
    intro x1 x2 S H locs ls hf hw hl
    rw [f_X11_readScript_13.eq_2] at hf
    refine lv_iload_n C.1.1 C.1.2.1 dX11_readScript_13 rfl (lv_at hl 2 rfl) ?_
    refine r_if_eq C (tgt := 88) dX11_readScript_14 (by decide) hf (fun hf => ?_) (fun hf => ?_)
    · exact hk88 S H locs ls hf hw (lv_sub hl [0] rfl)
    · refine lv_aload_n C.1.1 C.1.2.1 dX11_readScript_17 rfl (lv_at hl 0 rfl) ?_
      refine r_iconst (v := 3) C dX11_readScript_18 ?_
      refine r_bipush (v := 12) C dX11_readScript_19 (by decide) ?_
      refine lv_iload_n C.1.1 C.1.2.1 dX11_readScript_21 rfl (lv_at hl 1 rfl) ?_
      refine r_imul C dX11_readScript_22 ?_
      refine lv_aload_n C.1.1 C.1.2.1 dX11_readScript_23 rfl (lv_at hl 0 rfl) ?_
      refine r_getR (k := 20) C hw shM_0 ltM_0 cO11 rfl (by decide) tw5_164 rfl dX11_readScript_24 ?_
      refine lv_iload_n C.1.1 C.1.2.1 dX11_readScript_27 rfl (lv_at hl 1 rfl) ?_
      refine r_iald C hw shM_7 ltM_7 (Nat.le_of_ble_eq_true rfl) dX11_readScript_28 hf (fun v28 hf => ?_)
      refine r_iadd C dX11_readScript_29 ?_
      refine r_imul C dX11_readScript_30 ?_
      refine r_callV (As := [.int (iz (3 * ((12 * x1) + v28)))]) (rest := []) (rm := rmX11_readStep) C hw shM_0 ltM_0 cO11 tw6_155 tw6_157 tp_58 tw1_12 tw6_158 hd_X11_readStep rfl ⟨⟨rfl, rfl⟩, Nat.le_of_ble_eq_true rfl, Nat.le_of_ble_eq_true rfl⟩ hl.1 rfl (Nat.le_of_ble_eq_true rfl) dX11_readScript_31 hf (fun o ho => c_X11_readStep l X hinj hZ N S (3 * ((12 * x1) + v28)) o ho) (fun S31 H locs hf hw => ?_)
      refine lv_aload_n C.1.1 C.1.2.1 dX11_readScript_34 rfl (lv_at hl 0 rfl) ?_
      refine r_getR (k := 20) C hw shM_0 ltM_0 cO11 rfl (by decide) tw5_164 rfl dX11_readScript_35 ?_
      refine lv_iload_n C.1.1 C.1.2.1 dX11_readScript_38 rfl (lv_at hl 1 rfl) ?_
      refine lv_dup2_11 C.1.1 C.1.2.1 dX11_readScript_39 rfl rfl ?_
      refine r_iald C hw shM_7 ltM_7 (Nat.le_of_ble_eq_true rfl) dX11_readScript_40 hf (fun v40 hf => ?_)
      refine r_iconst (v := 1) C dX11_readScript_41 ?_
      refine r_iadd C dX11_readScript_42 ?_
      refine r_iast C hw shM_7 ltM_7 (Nat.le_of_ble_eq_true rfl) dX11_readScript_43 hf (fun S43 H locs hf hw => ?_)
      refine lv_aload_n C.1.1 C.1.2.1 dX11_readScript_44 rfl (lv_at hl 0 rfl) ?_
      refine r_getI (k := 8) C hw shM_0 ltM_0 cO11 rfl (by decide) tw5_152 rfl dX11_readScript_45 hf (fun v45 hf => ?_)
      refine r_iconst (v := (-1)) C dX11_readScript_48 ?_
      refine r_icmp_ne C (tgt := 75) dX11_readScript_49 (by decide) hf (fun hf => ?_) (fun hf => ?_)
      · exact (w_X11_readScript_75 l hinj hZ C out (f_X11_readScript_13 k88 N) ih N) x1 S43 H locs ls hf hw (lv_sub hl [0, 1] rfl)
      · refine lv_aload_n C.1.1 C.1.2.1 dX11_readScript_52 rfl (lv_at hl 0 rfl) ?_
        refine r_getI (k := 4) C hw shM_0 ltM_0 cO11 rfl (by decide) tw5_148 rfl dX11_readScript_53 hf (fun v53 hf => ?_)
        refine r_iconst (v := 3) C dX11_readScript_56 ?_
        refine r_icmp_ne C (tgt := 75) dX11_readScript_57 (by decide) hf (fun hf => ?_) (fun hf => ?_)
        · exact (w_X11_readScript_75 l hinj hZ C out (f_X11_readScript_13 k88 N) ih N) x1 S43 H locs ls hf hw (lv_sub hl [0, 1] rfl)
        · refine lv_aload_n C.1.1 C.1.2.1 dX11_readScript_60 rfl (lv_at hl 0 rfl) ?_
          refine r_getR (k := 20) C hw shM_0 ltM_0 cO11 rfl (by decide) tw5_164 rfl dX11_readScript_61 ?_
          refine lv_iload_n C.1.1 C.1.2.1 dX11_readScript_64 rfl (lv_at hl 1 rfl) ?_
          refine r_iald C hw shM_7 ltM_7 (Nat.le_of_ble_eq_true rfl) dX11_readScript_65 hf (fun v65 hf => ?_)
          refine r_bipush (v := 12) C dX11_readScript_66 (by decide) ?_
          refine r_icmp_ge C (tgt := 75) dX11_readScript_68 (by decide) hf (fun hf => ?_) (fun hf => ?_)
          · exact (w_X11_readScript_75 l hinj hZ C out (f_X11_readScript_13 k88 N) ih N) x1 S43 H locs ls hf hw (lv_sub hl [0, 1] rfl)
          · refine r_iconst (v := 1) C dX11_readScript_71 ?_
            refine lv_goto (tgt := 76) C.1.1 C.1.2.1 dX11_readScript_72 (by decide) ?_
            exact (w_X11_readScript_76 l hinj hZ C out (f_X11_readScript_13 k88 N) ih N) x1 1 S43 H locs ls hf hw (lv_sub hl [0, 1] rfl)
set_option maxRecDepth 100000 in
set_option maxHeartbeats 4000000 in
theorem c_X11_readScript (l : Launch) (X : XT) (hinj : XInj X nM) (hZ : ZOK (Zm X)) (N : Nat) (S : S2) (a1 : Int) (out : Int × S2) (hf : f_X11_readScript N S a1 = some out) : MI l X shM nM (Zm X) yX11_readScript cX11_readScript 3 (some .int) rmX11_readScript [.ref (X.2.2 0), .int (iz a1)] S out := by
  refine met_I (own := RX11) (by decide) rfl hinj hZ (Nat.le_of_ble_eq_true rfl) (fun p e s m args below meth c C ls H locs hw hl => ?_)
  unfold f_X11_readScript at hf
  have hl : lv_has ls 3 [(0, .ref (X.2.2 0)), (1, .int (iz a1))] := hl
  refine lv_aload_n C.1.1 C.1.2.1 dX11_readScript_0 rfl (lv_at hl 0 rfl) ?_
  refine r_callV (As := []) (rest := []) (rm := rmX11_begins) C hw shM_0 ltM_0 cO11 tw6_88 tw6_90 tp_46 tw1_12 tw6_91 hd_X11_begins rfl ⟨⟨rfl, rfl⟩, Nat.le_of_ble_eq_true rfl, Nat.le_of_ble_eq_true rfl⟩ hl.1 rfl (Nat.le_of_ble_eq_true rfl) dX11_readScript_1 hf (fun o ho => c_X11_begins l X hinj hZ N S o ho) (fun S1 H locs hf hw => ?_)
  refine lv_aload_n C.1.1 C.1.2.1 dX11_readScript_4 rfl (lv_at hl 0 rfl) ?_
  refine r_getR (k := 20) C hw shM_0 ltM_0 cO11 rfl (by decide) tw5_164 rfl dX11_readScript_5 ?_
  refine lv_iload_n C.1.1 C.1.2.1 dX11_readScript_8 rfl (lv_at hl 1 rfl) ?_
  refine r_iconst (v := 0) C dX11_readScript_9 ?_
  refine r_iast C hw shM_7 ltM_7 (Nat.le_of_ble_eq_true rfl) dX11_readScript_10 hf (fun S10 H locs hf hw => ?_)
  refine r_iconst (v := 1) C dX11_readScript_11 ?_
  refine lv_istore_n (lv' := [(2, .int (iz 1)), (0, .ref (X.2.2 0)), (1, .int (iz a1))]) C.1.1 C.1.2.1 dX11_readScript_12 rfl hl (by decide) rfl (fun ls hl => ?_)
  exact (w_X11_readScript_13 l hinj hZ C out (f_X11_readScript_88 N) (w_X11_readScript_88 l hinj hZ C out N) N) a1 1 S10 H locs ls hf hw (lv_sub hl [1, 2, 0] rfl)
def f_X11_fault (N : Nat) (S : S2) (a1 : Int) : Option (Int × S2) := cI a1 0 (if a1 = 0 then bI (f_X11_readTrace N S) fun v5 S5 => rI v5 S5 else cI a1 1 (if a1 = 1 then bI (f_X11_readScript N S 4) fun v18 S18 => rI v18 S18 else rI (-2) S))
abbrev rmX11_fault : Room := { frames := 7, cells := 0, slots := 0, locals := 153 }
theorem hd_X11_fault : yX11_fault.cls ≠ "java/lang/invoke/MethodHandle" ∧ yX11_fault.cls ≠ "java/lang/invoke/VarHandle" ∧ (parseMethodDescriptor yX11_fault.desc).map (fun d => d.parameters.length) = some 1 := by decide +kernel
set_option maxRecDepth 100000 in
set_option maxHeartbeats 4000000 in
theorem c_X11_fault (l : Launch) (X : XT) (hinj : XInj X nM) (hZ : ZOK (Zm X)) (N : Nat) (S : S2) (a1 : Int) (out : Int × S2) (hf : f_X11_fault N S a1 = some out) : MI l X shM nM (Zm X) yX11_fault cX11_fault 2 (some .int) rmX11_fault [.ref (X.2.2 0), .int (iz a1)] S out := by
  refine met_I (own := RX11) (by decide) rfl hinj hZ (Nat.le_of_ble_eq_true rfl) (fun p e s m args below meth c C ls H locs hw hl => ?_)
  unfold f_X11_fault at hf
  have hl : lv_has ls 2 [(0, .ref (X.2.2 0)), (1, .int (iz a1))] := hl
  refine lv_iload_n C.1.1 C.1.2.1 dX11_fault_0 rfl (lv_at hl 1 rfl) ?_
  refine r_if_ne C (tgt := 11) dX11_fault_1 (by decide) hf (fun hf => ?_) (fun hf => ?_)
  · refine lv_iload_n C.1.1 C.1.2.1 dX11_fault_11 rfl (lv_at hl 1 rfl) ?_
    refine r_iconst (v := 1) C dX11_fault_12 ?_
    refine r_icmp_ne C (tgt := 24) dX11_fault_13 (by decide) hf (fun hf => ?_) (fun hf => ?_)
    · refine r_bipush (v := (-2)) C dX11_fault_24 (by decide) ?_
      exact r_retI C hw dX11_fault_26 hf
    · refine lv_aload_n C.1.1 C.1.2.1 dX11_fault_16 rfl (lv_at hl 0 rfl) ?_
      refine r_iconst (v := 4) C dX11_fault_17 ?_
      refine r_callI (As := [.int (iz 4)]) (rest := []) (rm := rmX11_readScript) C hw shM_0 ltM_0 cO11 tw6_151 tw6_153 tp_57 tw1_12 tw6_154 hd_X11_readScript rfl ⟨⟨rfl, rfl⟩, Nat.le_of_ble_eq_true rfl, Nat.le_of_ble_eq_true rfl⟩ hl.1 rfl (Nat.le_of_ble_eq_true rfl) dX11_fault_18 hf (fun o ho => c_X11_readScript l X hinj hZ N S 4 o ho) (fun v18 S18 H locs hf hw => ?_)
      refine lv_goto (tgt := 26) C.1.1 C.1.2.1 dX11_fault_21 (by decide) ?_
      exact r_retI C hw dX11_fault_26 hf
  · refine lv_aload_n C.1.1 C.1.2.1 dX11_fault_4 rfl (lv_at hl 0 rfl) ?_
    refine r_callI (As := []) (rest := []) (rm := rmX11_readTrace) C hw shM_0 ltM_0 cO11 tw6_84 tw6_86 tp_45 tw1_12 tw6_87 hd_X11_readTrace rfl ⟨⟨rfl, rfl⟩, Nat.le_of_ble_eq_true rfl, Nat.le_of_ble_eq_true rfl⟩ hl.1 rfl (Nat.le_of_ble_eq_true rfl) dX11_fault_5 hf (fun o ho => c_X11_readTrace l X hinj hZ N S o ho) (fun v5 S5 H locs hf hw => ?_)
    refine lv_goto (tgt := 26) C.1.1 C.1.2.1 dX11_fault_8 (by decide) ?_
    exact r_retI C hw dX11_fault_26 hf
def f_X11_many (N : Nat) (S : S2) : Option (Int × S2) := aI S 8 231 48 fun v6 => rI v6 S
abbrev rmX11_many : Room := { frames := 0, cells := 0, slots := 0, locals := 0 }
theorem hd_X11_many : yX11_many.cls ≠ "java/lang/invoke/MethodHandle" ∧ yX11_many.cls ≠ "java/lang/invoke/VarHandle" ∧ (parseMethodDescriptor yX11_many.desc).map (fun d => d.parameters.length) = some 0 := by decide +kernel
set_option maxRecDepth 100000 in
set_option maxHeartbeats 4000000 in
theorem c_X11_many (l : Launch) (X : XT) (hinj : XInj X nM) (hZ : ZOK (Zm X)) (N : Nat) (S : S2) (out : Int × S2) (hf : f_X11_many N S = some out) : MI l X shM nM (Zm X) yX11_many cX11_many 1 (some .int) rmX11_many [.ref (X.2.2 0)] S out := by
  refine met_I (own := RX11) (by decide) rfl hinj hZ (Nat.le_of_ble_eq_true rfl) (fun p e s m args below meth c C ls H locs hw hl => ?_)
  unfold f_X11_many at hf
  have hl : lv_has ls 1 [(0, .ref (X.2.2 0))] := hl
  refine lv_aload_n C.1.1 C.1.2.1 dX11_many_0 rfl (lv_at hl 0 rfl) ?_
  refine r_getR (k := 22) C hw shM_0 ltM_0 cO11 rfl (by decide) tw5_166 rfl dX11_many_1 ?_
  refine r_bipush (v := 48) C dX11_many_4 (by decide) ?_
  refine r_iald C hw shM_8 ltM_8 (Nat.le_of_ble_eq_true rfl) dX11_many_6 hf (fun v6 hf => ?_)
  exact r_retI C hw dX11_many_7 hf
def f_X11_isPlace (N : Nat) (S : S2) (a1 : Int) : Option (Int × S2) := gI S 0 29 fun v1 => cI v1 0 (if v1 = 0 then rZ 0 S else bI (f_X11_many N S) fun v10 S10 => bI (f_X11_in N S10 a1 0 (v10 - 1)) fun v15 S15 => cI v15 0 (if v15 = 0 then rZ 0 S15 else rZ 1 S15))
abbrev rmX11_isPlace : Room := { frames := 1, cells := 0, slots := 0, locals := 22 }
theorem hd_X11_isPlace : yX11_isPlace.cls ≠ "java/lang/invoke/MethodHandle" ∧ yX11_isPlace.cls ≠ "java/lang/invoke/VarHandle" ∧ (parseMethodDescriptor yX11_isPlace.desc).map (fun d => d.parameters.length) = some 1 := by decide +kernel
set_option maxRecDepth 100000 in
set_option maxHeartbeats 4000000 in
theorem c_X11_isPlace (l : Launch) (X : XT) (hinj : XInj X nM) (hZ : ZOK (Zm X)) (N : Nat) (S : S2) (a1 : Int) (out : Int × S2) (hf : f_X11_isPlace N S a1 = some out) : MI l X shM nM (Zm X) yX11_isPlace cX11_isPlace 2 (some .boolean) rmX11_isPlace [.ref (X.2.2 0), .int (iz a1)] S out := by
  refine met_I (own := RX11) (by decide) rfl hinj hZ (Nat.le_of_ble_eq_true rfl) (fun p e s m args below meth c C ls H locs hw hl => ?_)
  unfold f_X11_isPlace at hf
  have hl : lv_has ls 2 [(0, .ref (X.2.2 0)), (1, .int (iz a1))] := hl
  refine lv_aload_n C.1.1 C.1.2.1 dX11_isPlace_0 rfl (lv_at hl 0 rfl) ?_
  refine r_getI (k := 29) C hw shM_0 ltM_0 cO11 rfl (by decide) tw5_173 rfl dX11_isPlace_1 hf (fun v1 hf => ?_)
  refine r_if_eq C (tgt := 25) dX11_isPlace_4 (by decide) hf (fun hf => ?_) (fun hf => ?_)
  · refine r_iconst (v := 0) C dX11_isPlace_25 ?_
    exact r_retZ C hw dX11_isPlace_26 hf
  · refine lv_iload_n C.1.1 C.1.2.1 dX11_isPlace_7 rfl (lv_at hl 1 rfl) ?_
    refine r_iconst (v := 0) C dX11_isPlace_8 ?_
    refine lv_aload_n C.1.1 C.1.2.1 dX11_isPlace_9 rfl (lv_at hl 0 rfl) ?_
    refine r_callI (As := []) (rest := [.int (iz 0), .int (iz a1)]) (rm := rmX11_many) C hw shM_0 ltM_0 cO11 tw6_192 tw6_194 tp_60 tw1_12 tw6_195 hd_X11_many rfl ⟨⟨rfl, rfl⟩, Nat.le_of_ble_eq_true rfl, Nat.le_of_ble_eq_true rfl⟩ hl.1 rfl (Nat.le_of_ble_eq_true rfl) dX11_isPlace_10 hf (fun o ho => c_X11_many l X hinj hZ N S o ho) (fun v10 S10 H locs hf hw => ?_)
    refine r_iconst (v := 1) C dX11_isPlace_13 ?_
    refine r_isub C dX11_isPlace_14 ?_
    refine r_scallI (As := [.int (iz a1), .int (iz 0), .int (iz (v10 - 1))]) (rest := []) (rm := rmX11_in) C hw tw6_77 tw6_78 tw1_12 tw6_79 hd_X11_in rfl ⟨⟨rfl, rfl⟩, Nat.le_of_ble_eq_true rfl, Nat.le_of_ble_eq_true rfl⟩ hl.1 rfl (Nat.le_of_ble_eq_true rfl) dX11_isPlace_15 hf (fun o ho => c_X11_in l X hinj hZ N S10 a1 0 (v10 - 1) o ho) (fun v15 S15 H locs hf hw => ?_)
    refine r_if_eq C (tgt := 25) dX11_isPlace_18 (by decide) hf (fun hf => ?_) (fun hf => ?_)
    · refine r_iconst (v := 0) C dX11_isPlace_25 ?_
      exact r_retZ C hw dX11_isPlace_26 hf
    · refine r_iconst (v := 1) C dX11_isPlace_21 ?_
      refine lv_goto (tgt := 26) C.1.1 C.1.2.1 dX11_isPlace_22 (by decide) ?_
      exact r_retZ C hw dX11_isPlace_26 hf
def f_X11_takeTrace_145 (N : Nat) (S : S2) : Option (Int × S2) := uI S 0 44 0 fun S147 => uZ S147 0 47 0 fun S152 => bI (f_X11_many N S152) fun v156 S156 => rI v156 S156
def f_X11_takeTrace_95 (k145 : S2 → Option (Int × S2)) : Nat → Int → S2 → Option (Int × S2)
  | 0, _, _ => none
  | N + 1, x1, S => gI S 0 27 fun v97 => cI x1 v97 (if v97 ≤ x1 then k145 S else aI S 3 8 x1 fun v113 => sI S 10 8 x1 v113 fun S114 => aI S114 4 8 x1 fun v125 => sI S114 11 8 x1 v125 fun S126 => aL S126 5 8 x1 fun v137 => sL S126 12 8 x1 v137 fun S138 => (f_X11_takeTrace_95 k145 N) (x1 + 1) S138)
def f_X11_takeTrace_55 (N : Nat) (S : S2) : Option (Int × S2) := gI S 0 15 fun v62 => sI S 8 231 48 v62 fun S65 => gI S65 0 17 fun v73 => sI S65 8 231 49 v73 fun S76 => gI S76 0 18 fun v79 => uI S76 0 28 v79 fun S82 => gI S82 0 16 fun v87 => uI S82 0 27 v87 fun S90 => (f_X11_takeTrace_95 (f_X11_takeTrace_145 N) N) 0 S90
def f_X11_takeTrace_29 (k55 : S2 → Option (Int × S2)) : Nat → Int → S2 → Option (Int × S2)
  | 0, _, _ => none
  | N + 1, x1, S => gI S 0 15 fun v31 => cI x1 v31 (if v31 ≤ x1 then k55 S else aI S 2 48 x1 fun v47 => sI S 8 231 x1 v47 fun S48 => (f_X11_takeTrace_29 k55 N) (x1 + 1) S48)
def f_X11_takeTrace_27 (N : Nat) (S : S2) : Option (Int × S2) := (f_X11_takeTrace_29 (f_X11_takeTrace_55 N) N) 0 S
def f_X11_takeTrace_7 (k27 : S2 → Option (Int × S2)) : Nat → Int → S2 → Option (Int × S2)
  | 0, _, _ => none
  | N + 1, x1, S => cI x1 231 (if 231 ≤ x1 then k27 S else sI S 8 231 x1 0 fun S20 => (f_X11_takeTrace_7 k27 N) (x1 + 1) S20)
def f_X11_takeTrace (N : Nat) (S : S2) : Option (Int × S2) := uZ S 0 29 1 fun S2 => (f_X11_takeTrace_7 (f_X11_takeTrace_27 N) N) 0 S2
abbrev rmX11_takeTrace : Room := { frames := 1, cells := 0, slots := 0, locals := 20 }
theorem hd_X11_takeTrace : yX11_takeTrace.cls ≠ "java/lang/invoke/MethodHandle" ∧ yX11_takeTrace.cls ≠ "java/lang/invoke/VarHandle" ∧ (parseMethodDescriptor yX11_takeTrace.desc).map (fun d => d.parameters.length) = some 0 := by decide +kernel
set_option maxRecDepth 100000 in
set_option maxHeartbeats 4000000 in
theorem w_X11_takeTrace_145 {p : Program} (l : Launch) {e : Env} {s : State} {m : MethodId} {args : Array Value} {below : List Frame} {meth : Method} {c : Code} {X : XT} (hinj : XInj X nM) (hZ : ZOK (Zm X)) (C : CX p s m args meth c cX11_takeTrace 2 RX11 (some .int) X nM (Zm X)) (out : Int × S2) : ∀ (N : Nat), ∀ (S : S2) (H : Heap) (locs : List Loc) (ls : Array Slot), f_X11_takeTrace_145 N S = some out → WH X shM nM s S H locs → lv_has ls 2 [(0, .ref (X.2.2 0))] → W p l e rmX11_takeTrace s m args below meth c H locs 0 0 (QI X shM nM s args below out) (F0 m 145 ls []) := by
  intro N S H locs ls hf hw hl
  unfold f_X11_takeTrace_145 at hf
  refine lv_aload_n C.1.1 C.1.2.1 dX11_takeTrace_145 rfl (lv_at hl 0 rfl) ?_
  refine r_iconst (v := 0) C dX11_takeTrace_146 ?_
  refine r_putI (k := 44) C hw shM_0 ltM_0 cO11 rfl (by decide) tw5_188 rfl rfl rfl dX11_takeTrace_147 hf (fun S147 H locs hf hw => ?_)
  refine lv_aload_n C.1.1 C.1.2.1 dX11_takeTrace_150 rfl (lv_at hl 0 rfl) ?_
  refine r_iconst (v := 0) C dX11_takeTrace_151 ?_
  refine r_putZ (k := 47) C hw shM_0 ltM_0 cO11 rfl (by decide) tw5_191 rfl rfl rfl dX11_takeTrace_152 hf (fun S152 H locs hf hw => ?_)
  refine lv_aload_n C.1.1 C.1.2.1 dX11_takeTrace_155 rfl (lv_at hl 0 rfl) ?_
  refine r_callI (As := []) (rest := []) (rm := rmX11_many) C hw shM_0 ltM_0 cO11 tw6_192 tw6_194 tp_60 tw1_12 tw6_195 hd_X11_many rfl ⟨⟨rfl, rfl⟩, Nat.le_of_ble_eq_true rfl, Nat.le_of_ble_eq_true rfl⟩ hl.1 rfl (Nat.le_of_ble_eq_true rfl) dX11_takeTrace_156 hf (fun o ho => c_X11_many l X hinj hZ N S152 o ho) (fun v156 S156 H locs hf hw => ?_)
  exact r_retI C hw dX11_takeTrace_159 hf
set_option maxRecDepth 100000 in
set_option maxHeartbeats 4000000 in
theorem w_X11_takeTrace_95 {p : Program} (l : Launch) {e : Env} {s : State} {m : MethodId} {args : Array Value} {below : List Frame} {meth : Method} {c : Code} {X : XT} (hinj : XInj X nM) (hZ : ZOK (Zm X)) (C : CX p s m args meth c cX11_takeTrace 2 RX11 (some .int) X nM (Zm X)) (out : Int × S2) (k145 : S2 → Option (Int × S2)) (hk145 : ∀ (S : S2) (H : Heap) (locs : List Loc) (ls : Array Slot), k145 S = some out → WH X shM nM s S H locs → lv_has ls 2 [(0, .ref (X.2.2 0))] → W p l e rmX11_takeTrace s m args below meth c H locs 0 0 (QI X shM nM s args below out) (F0 m 145 ls [])) : ∀ (N : Nat), ∀ (x1 : Int) (S : S2) (H : Heap) (locs : List Loc) (ls : Array Slot), f_X11_takeTrace_95 k145 N x1 S = some out → WH X shM nM s S H locs → lv_has ls 2 [(0, .ref (X.2.2 0)), (1, .int (iz x1))] → W p l e rmX11_takeTrace s m args below meth c H locs 0 0 (QI X shM nM s args below out) (F0 m 95 ls []) := by
  intro N
  induction N with
  | zero => intro x1 S H locs ls hf hw hl; cases hf
  | succ N ih =>
    intro x1 S H locs ls hf hw hl
    rw [f_X11_takeTrace_95.eq_2] at hf
    refine lv_iload_n C.1.1 C.1.2.1 dX11_takeTrace_95 rfl (lv_at hl 1 rfl) ?_
    refine lv_aload_n C.1.1 C.1.2.1 dX11_takeTrace_96 rfl (lv_at hl 0 rfl) ?_
    refine r_getI (k := 27) C hw shM_0 ltM_0 cO11 rfl (by decide) tw5_171 rfl dX11_takeTrace_97 hf (fun v97 hf => ?_)
    refine r_icmp_ge C (tgt := 145) dX11_takeTrace_100 (by decide) hf (fun hf => ?_) (fun hf => ?_)
    · exact hk145 S H locs ls hf hw (lv_sub hl [0] rfl)
    · refine lv_aload_n C.1.1 C.1.2.1 dX11_takeTrace_103 rfl (lv_at hl 0 rfl) ?_
      refine r_getR (k := 24) C hw shM_0 ltM_0 cO11 rfl (by decide) tw5_168 rfl dX11_takeTrace_104 ?_
      refine lv_iload_n C.1.1 C.1.2.1 dX11_takeTrace_107 rfl (lv_at hl 1 rfl) ?_
      refine lv_aload_n C.1.1 C.1.2.1 dX11_takeTrace_108 rfl (lv_at hl 0 rfl) ?_
      refine r_getR (k := 12) C hw shM_0 ltM_0 cO11 rfl (by decide) tw5_156 rfl dX11_takeTrace_109 ?_
      refine lv_iload_n C.1.1 C.1.2.1 dX11_takeTrace_112 rfl (lv_at hl 1 rfl) ?_
      refine r_iald C hw shM_3 ltM_3 (Nat.le_of_ble_eq_true rfl) dX11_takeTrace_113 hf (fun v113 hf => ?_)
      refine r_iast C hw shM_10 ltM_10 (Nat.le_of_ble_eq_true rfl) dX11_takeTrace_114 hf (fun S114 H locs hf hw => ?_)
      refine lv_aload_n C.1.1 C.1.2.1 dX11_takeTrace_115 rfl (lv_at hl 0 rfl) ?_
      refine r_getR (k := 25) C hw shM_0 ltM_0 cO11 rfl (by decide) tw5_169 rfl dX11_takeTrace_116 ?_
      refine lv_iload_n C.1.1 C.1.2.1 dX11_takeTrace_119 rfl (lv_at hl 1 rfl) ?_
      refine lv_aload_n C.1.1 C.1.2.1 dX11_takeTrace_120 rfl (lv_at hl 0 rfl) ?_
      refine r_getR (k := 13) C hw shM_0 ltM_0 cO11 rfl (by decide) tw5_157 rfl dX11_takeTrace_121 ?_
      refine lv_iload_n C.1.1 C.1.2.1 dX11_takeTrace_124 rfl (lv_at hl 1 rfl) ?_
      refine r_iald C hw shM_4 ltM_4 (Nat.le_of_ble_eq_true rfl) dX11_takeTrace_125 hf (fun v125 hf => ?_)
      refine r_iast C hw shM_11 ltM_11 (Nat.le_of_ble_eq_true rfl) dX11_takeTrace_126 hf (fun S126 H locs hf hw => ?_)
      refine lv_aload_n C.1.1 C.1.2.1 dX11_takeTrace_127 rfl (lv_at hl 0 rfl) ?_
      refine r_getR (k := 26) C hw shM_0 ltM_0 cO11 rfl (by decide) tw5_170 rfl dX11_takeTrace_128 ?_
      refine lv_iload_n C.1.1 C.1.2.1 dX11_takeTrace_131 rfl (lv_at hl 1 rfl) ?_
      refine lv_aload_n C.1.1 C.1.2.1 dX11_takeTrace_132 rfl (lv_at hl 0 rfl) ?_
      refine r_getR (k := 14) C hw shM_0 ltM_0 cO11 rfl (by decide) tw5_158 rfl dX11_takeTrace_133 ?_
      refine lv_iload_n C.1.1 C.1.2.1 dX11_takeTrace_136 rfl (lv_at hl 1 rfl) ?_
      refine r_lald C hw shM_5 ltM_5 (Nat.le_of_ble_eq_true rfl) dX11_takeTrace_137 hf (fun v137 hf => ?_)
      refine r_last C hw shM_12 ltM_12 (Nat.le_of_ble_eq_true rfl) dX11_takeTrace_138 hf (fun S138 H locs hf hw => ?_)
      refine lv_iinc (v := iz (x1 + 1)) (lv' := [(1, .int (iz (x1 + 1))), (0, .ref (X.2.2 0))]) C.1.1 C.1.2.1 dX11_takeTrace_139 hl (k := 1) rfl (iz_add _ _) (by decide) rfl (fun ls hl => ?_)
      refine lv_goto (tgt := 95) C.1.1 C.1.2.1 dX11_takeTrace_142 (by decide) ?_
      exact ih (x1 + 1) S138 H locs ls hf hw (lv_sub hl [1, 0] rfl)
set_option maxRecDepth 100000 in
set_option maxHeartbeats 4000000 in
theorem w_X11_takeTrace_55 {p : Program} (l : Launch) {e : Env} {s : State} {m : MethodId} {args : Array Value} {below : List Frame} {meth : Method} {c : Code} {X : XT} (hinj : XInj X nM) (hZ : ZOK (Zm X)) (C : CX p s m args meth c cX11_takeTrace 2 RX11 (some .int) X nM (Zm X)) (out : Int × S2) : ∀ (N : Nat), ∀ (S : S2) (H : Heap) (locs : List Loc) (ls : Array Slot), f_X11_takeTrace_55 N S = some out → WH X shM nM s S H locs → lv_has ls 2 [(0, .ref (X.2.2 0))] → W p l e rmX11_takeTrace s m args below meth c H locs 0 0 (QI X shM nM s args below out) (F0 m 55 ls []) := by
  intro N S H locs ls hf hw hl
  unfold f_X11_takeTrace_55 at hf
  refine lv_aload_n C.1.1 C.1.2.1 dX11_takeTrace_55 rfl (lv_at hl 0 rfl) ?_
  refine r_getR (k := 22) C hw shM_0 ltM_0 cO11 rfl (by decide) tw5_166 rfl dX11_takeTrace_56 ?_
  refine r_bipush (v := 48) C dX11_takeTrace_59 (by decide) ?_
  refine lv_aload_n C.1.1 C.1.2.1 dX11_takeTrace_61 rfl (lv_at hl 0 rfl) ?_
  refine r_getI (k := 15) C hw shM_0 ltM_0 cO11 rfl (by decide) tw5_159 rfl dX11_takeTrace_62 hf (fun v62 hf => ?_)
  refine r_iast C hw shM_8 ltM_8 (Nat.le_of_ble_eq_true rfl) dX11_takeTrace_65 hf (fun S65 H locs hf hw => ?_)
  refine lv_aload_n C.1.1 C.1.2.1 dX11_takeTrace_66 rfl (lv_at hl 0 rfl) ?_
  refine r_getR (k := 22) C hw shM_0 ltM_0 cO11 rfl (by decide) tw5_166 rfl dX11_takeTrace_67 ?_
  refine r_bipush (v := 49) C dX11_takeTrace_70 (by decide) ?_
  refine lv_aload_n C.1.1 C.1.2.1 dX11_takeTrace_72 rfl (lv_at hl 0 rfl) ?_
  refine r_getI (k := 17) C hw shM_0 ltM_0 cO11 rfl (by decide) tw5_161 rfl dX11_takeTrace_73 hf (fun v73 hf => ?_)
  refine r_iast C hw shM_8 ltM_8 (Nat.le_of_ble_eq_true rfl) dX11_takeTrace_76 hf (fun S76 H locs hf hw => ?_)
  refine lv_aload_n C.1.1 C.1.2.1 dX11_takeTrace_77 rfl (lv_at hl 0 rfl) ?_
  refine lv_aload_n C.1.1 C.1.2.1 dX11_takeTrace_78 rfl (lv_at hl 0 rfl) ?_
  refine r_getI (k := 18) C hw shM_0 ltM_0 cO11 rfl (by decide) tw5_162 rfl dX11_takeTrace_79 hf (fun v79 hf => ?_)
  refine r_putI (k := 28) C hw shM_0 ltM_0 cO11 rfl (by decide) tw5_172 rfl rfl rfl dX11_takeTrace_82 hf (fun S82 H locs hf hw => ?_)
  refine lv_aload_n C.1.1 C.1.2.1 dX11_takeTrace_85 rfl (lv_at hl 0 rfl) ?_
  refine lv_aload_n C.1.1 C.1.2.1 dX11_takeTrace_86 rfl (lv_at hl 0 rfl) ?_
  refine r_getI (k := 16) C hw shM_0 ltM_0 cO11 rfl (by decide) tw5_160 rfl dX11_takeTrace_87 hf (fun v87 hf => ?_)
  refine r_putI (k := 27) C hw shM_0 ltM_0 cO11 rfl (by decide) tw5_171 rfl rfl rfl dX11_takeTrace_90 hf (fun S90 H locs hf hw => ?_)
  refine r_iconst (v := 0) C dX11_takeTrace_93 ?_
  refine lv_istore_n (lv' := [(1, .int (iz 0)), (0, .ref (X.2.2 0))]) C.1.1 C.1.2.1 dX11_takeTrace_94 rfl hl (by decide) rfl (fun ls hl => ?_)
  exact (w_X11_takeTrace_95 l hinj hZ C out (f_X11_takeTrace_145 N) (w_X11_takeTrace_145 l hinj hZ C out N) N) 0 S90 H locs ls hf hw (lv_sub hl [1, 0] rfl)
set_option maxRecDepth 100000 in
set_option maxHeartbeats 4000000 in
theorem w_X11_takeTrace_29 {p : Program} (l : Launch) {e : Env} {s : State} {m : MethodId} {args : Array Value} {below : List Frame} {meth : Method} {c : Code} {X : XT} (hinj : XInj X nM) (hZ : ZOK (Zm X)) (C : CX p s m args meth c cX11_takeTrace 2 RX11 (some .int) X nM (Zm X)) (out : Int × S2) (k55 : S2 → Option (Int × S2)) (hk55 : ∀ (S : S2) (H : Heap) (locs : List Loc) (ls : Array Slot), k55 S = some out → WH X shM nM s S H locs → lv_has ls 2 [(0, .ref (X.2.2 0))] → W p l e rmX11_takeTrace s m args below meth c H locs 0 0 (QI X shM nM s args below out) (F0 m 55 ls [])) : ∀ (N : Nat), ∀ (x1 : Int) (S : S2) (H : Heap) (locs : List Loc) (ls : Array Slot), f_X11_takeTrace_29 k55 N x1 S = some out → WH X shM nM s S H locs → lv_has ls 2 [(0, .ref (X.2.2 0)), (1, .int (iz x1))] → W p l e rmX11_takeTrace s m args below meth c H locs 0 0 (QI X shM nM s args below out) (F0 m 29 ls []) := by
  intro N
  induction N with
  | zero => intro x1 S H locs ls hf hw hl; cases hf
  | succ N ih =>
    intro x1 S H locs ls hf hw hl
    rw [f_X11_takeTrace_29.eq_2] at hf
    refine lv_iload_n C.1.1 C.1.2.1 dX11_takeTrace_29 rfl (lv_at hl 1 rfl) ?_
    refine lv_aload_n C.1.1 C.1.2.1 dX11_takeTrace_30 rfl (lv_at hl 0 rfl) ?_
    refine r_getI (k := 15) C hw shM_0 ltM_0 cO11 rfl (by decide) tw5_159 rfl dX11_takeTrace_31 hf (fun v31 hf => ?_)
    refine r_icmp_ge C (tgt := 55) dX11_takeTrace_34 (by decide) hf (fun hf => ?_) (fun hf => ?_)
    · exact hk55 S H locs ls hf hw (lv_sub hl [0] rfl)
    · refine lv_aload_n C.1.1 C.1.2.1 dX11_takeTrace_37 rfl (lv_at hl 0 rfl) ?_
      refine r_getR (k := 22) C hw shM_0 ltM_0 cO11 rfl (by decide) tw5_166 rfl dX11_takeTrace_38 ?_
      refine lv_iload_n C.1.1 C.1.2.1 dX11_takeTrace_41 rfl (lv_at hl 1 rfl) ?_
      refine lv_aload_n C.1.1 C.1.2.1 dX11_takeTrace_42 rfl (lv_at hl 0 rfl) ?_
      refine r_getR (k := 11) C hw shM_0 ltM_0 cO11 rfl (by decide) tw5_155 rfl dX11_takeTrace_43 ?_
      refine lv_iload_n C.1.1 C.1.2.1 dX11_takeTrace_46 rfl (lv_at hl 1 rfl) ?_
      refine r_iald C hw shM_2 ltM_2 (Nat.le_of_ble_eq_true rfl) dX11_takeTrace_47 hf (fun v47 hf => ?_)
      refine r_iast C hw shM_8 ltM_8 (Nat.le_of_ble_eq_true rfl) dX11_takeTrace_48 hf (fun S48 H locs hf hw => ?_)
      refine lv_iinc (v := iz (x1 + 1)) (lv' := [(1, .int (iz (x1 + 1))), (0, .ref (X.2.2 0))]) C.1.1 C.1.2.1 dX11_takeTrace_49 hl (k := 1) rfl (iz_add _ _) (by decide) rfl (fun ls hl => ?_)
      refine lv_goto (tgt := 29) C.1.1 C.1.2.1 dX11_takeTrace_52 (by decide) ?_
      exact ih (x1 + 1) S48 H locs ls hf hw (lv_sub hl [1, 0] rfl)
set_option maxRecDepth 100000 in
set_option maxHeartbeats 4000000 in
theorem w_X11_takeTrace_27 {p : Program} (l : Launch) {e : Env} {s : State} {m : MethodId} {args : Array Value} {below : List Frame} {meth : Method} {c : Code} {X : XT} (hinj : XInj X nM) (hZ : ZOK (Zm X)) (C : CX p s m args meth c cX11_takeTrace 2 RX11 (some .int) X nM (Zm X)) (out : Int × S2) : ∀ (N : Nat), ∀ (S : S2) (H : Heap) (locs : List Loc) (ls : Array Slot), f_X11_takeTrace_27 N S = some out → WH X shM nM s S H locs → lv_has ls 2 [(0, .ref (X.2.2 0))] → W p l e rmX11_takeTrace s m args below meth c H locs 0 0 (QI X shM nM s args below out) (F0 m 27 ls []) := by
  intro N S H locs ls hf hw hl
  unfold f_X11_takeTrace_27 at hf
  refine r_iconst (v := 0) C dX11_takeTrace_27 ?_
  refine lv_istore_n (lv' := [(1, .int (iz 0)), (0, .ref (X.2.2 0))]) C.1.1 C.1.2.1 dX11_takeTrace_28 rfl hl (by decide) rfl (fun ls hl => ?_)
  exact (w_X11_takeTrace_29 l hinj hZ C out (f_X11_takeTrace_55 N) (w_X11_takeTrace_55 l hinj hZ C out N) N) 0 S H locs ls hf hw (lv_sub hl [1, 0] rfl)
set_option maxRecDepth 100000 in
set_option maxHeartbeats 4000000 in
theorem w_X11_takeTrace_7 {p : Program} (l : Launch) {e : Env} {s : State} {m : MethodId} {args : Array Value} {below : List Frame} {meth : Method} {c : Code} {X : XT} (hinj : XInj X nM) (hZ : ZOK (Zm X)) (C : CX p s m args meth c cX11_takeTrace 2 RX11 (some .int) X nM (Zm X)) (out : Int × S2) (k27 : S2 → Option (Int × S2)) (hk27 : ∀ (S : S2) (H : Heap) (locs : List Loc) (ls : Array Slot), k27 S = some out → WH X shM nM s S H locs → lv_has ls 2 [(0, .ref (X.2.2 0))] → W p l e rmX11_takeTrace s m args below meth c H locs 0 0 (QI X shM nM s args below out) (F0 m 27 ls [])) : ∀ (N : Nat), ∀ (x1 : Int) (S : S2) (H : Heap) (locs : List Loc) (ls : Array Slot), f_X11_takeTrace_7 k27 N x1 S = some out → WH X shM nM s S H locs → lv_has ls 2 [(0, .ref (X.2.2 0)), (1, .int (iz x1))] → W p l e rmX11_takeTrace s m args below meth c H locs 0 0 (QI X shM nM s args below out) (F0 m 7 ls []) := by
  intro N
  induction N with
  | zero => intro x1 S H locs ls hf hw hl; cases hf
  | succ N ih =>
    intro x1 S H locs ls hf hw hl
    rw [f_X11_takeTrace_7.eq_2] at hf
    refine lv_iload_n C.1.1 C.1.2.1 dX11_takeTrace_7 rfl (lv_at hl 1 rfl) ?_
    refine r_sipush (v := 231) C dX11_takeTrace_8 (by decide) ?_
    refine r_icmp_ge C (tgt := 27) dX11_takeTrace_11 (by decide) hf (fun hf => ?_) (fun hf => ?_)
    · exact hk27 S H locs ls hf hw (lv_sub hl [0] rfl)
    · refine lv_aload_n C.1.1 C.1.2.1 dX11_takeTrace_14 rfl (lv_at hl 0 rfl) ?_
      refine r_getR (k := 22) C hw shM_0 ltM_0 cO11 rfl (by decide) tw5_166 rfl dX11_takeTrace_15 ?_
      refine lv_iload_n C.1.1 C.1.2.1 dX11_takeTrace_18 rfl (lv_at hl 1 rfl) ?_
      refine r_iconst (v := 0) C dX11_takeTrace_19 ?_
      refine r_iast C hw shM_8 ltM_8 (Nat.le_of_ble_eq_true rfl) dX11_takeTrace_20 hf (fun S20 H locs hf hw => ?_)
      refine lv_iinc (v := iz (x1 + 1)) (lv' := [(1, .int (iz (x1 + 1))), (0, .ref (X.2.2 0))]) C.1.1 C.1.2.1 dX11_takeTrace_21 hl (k := 1) rfl (iz_add _ _) (by decide) rfl (fun ls hl => ?_)
      refine lv_goto (tgt := 7) C.1.1 C.1.2.1 dX11_takeTrace_24 (by decide) ?_
      exact ih (x1 + 1) S20 H locs ls hf hw (lv_sub hl [1, 0] rfl)
set_option maxRecDepth 100000 in
set_option maxHeartbeats 4000000 in
theorem c_X11_takeTrace (l : Launch) (X : XT) (hinj : XInj X nM) (hZ : ZOK (Zm X)) (N : Nat) (S : S2) (out : Int × S2) (hf : f_X11_takeTrace N S = some out) : MI l X shM nM (Zm X) yX11_takeTrace cX11_takeTrace 2 (some .int) rmX11_takeTrace [.ref (X.2.2 0)] S out := by
  refine met_I (own := RX11) (by decide) rfl hinj hZ (Nat.le_of_ble_eq_true rfl) (fun p e s m args below meth c C ls H locs hw hl => ?_)
  unfold f_X11_takeTrace at hf
  have hl : lv_has ls 2 [(0, .ref (X.2.2 0))] := hl
  refine lv_aload_n C.1.1 C.1.2.1 dX11_takeTrace_0 rfl (lv_at hl 0 rfl) ?_
  refine r_iconst (v := 1) C dX11_takeTrace_1 ?_
  refine r_putZ (k := 29) C hw shM_0 ltM_0 cO11 rfl (by decide) tw5_173 rfl rfl rfl dX11_takeTrace_2 hf (fun S2 H locs hf hw => ?_)
  refine r_iconst (v := 0) C dX11_takeTrace_5 ?_
  refine lv_istore_n (lv' := [(1, .int (iz 0)), (0, .ref (X.2.2 0))]) C.1.1 C.1.2.1 dX11_takeTrace_6 rfl hl (by decide) rfl (fun ls hl => ?_)
  exact (w_X11_takeTrace_7 l hinj hZ C out (f_X11_takeTrace_27 N) (w_X11_takeTrace_27 l hinj hZ C out N) N) 0 S2 H locs ls hf hw (lv_sub hl [1, 0] rfl)
def f_X11_text_22 (N : Nat) (x1 : Int) (S : S2) : Option (Int × S2) := cI x1 1 (if x1 = 1 then gI S 0 21 fun v28 => cI v28 4 (if 4 ≤ v28 then rI (-1) S else gI S 0 21 fun v37 => bI (f_X11_readScript N S v37) fun v40 S40 => cI v40 (-1) (if v40 = (-1) then uI S40 0 2 0 fun S49 => gI S49 0 21 fun v54 => uI S49 0 21 (v54 + 1) fun S59 => gI S59 0 21 fun v63 => rI (v63 - 1) S59 else rI (-1) S40)) else rI (-1) S)
def f_X11_text (N : Nat) (S : S2) (a1 : Int) : Option (Int × S2) := cI a1 0 (if a1 = 0 then bI (f_X11_readTrace N S) fun v5 S5 => cI v5 (-1) (if v5 = (-1) then uI S5 0 2 0 fun S14 => bI (f_X11_takeTrace N S14) fun v18 S18 => rI v18 S18 else (f_X11_text_22 N) a1 S5) else (f_X11_text_22 N) a1 S)
abbrev rmX11_text : Room := { frames := 7, cells := 0, slots := 0, locals := 153 }
theorem hd_X11_text : yX11_text.cls ≠ "java/lang/invoke/MethodHandle" ∧ yX11_text.cls ≠ "java/lang/invoke/VarHandle" ∧ (parseMethodDescriptor yX11_text.desc).map (fun d => d.parameters.length) = some 1 := by decide +kernel
set_option maxRecDepth 100000 in
set_option maxHeartbeats 4000000 in
theorem w_X11_text_22 {p : Program} (l : Launch) {e : Env} {s : State} {m : MethodId} {args : Array Value} {below : List Frame} {meth : Method} {c : Code} {X : XT} (hinj : XInj X nM) (hZ : ZOK (Zm X)) (C : CX p s m args meth c cX11_text 2 RX11 (some .int) X nM (Zm X)) (out : Int × S2) : ∀ (N : Nat), ∀ (x1 : Int) (S : S2) (H : Heap) (locs : List Loc) (ls : Array Slot), f_X11_text_22 N x1 S = some out → WH X shM nM s S H locs → lv_has ls 2 [(0, .ref (X.2.2 0)), (1, .int (iz x1))] → W p l e rmX11_text s m args below meth c H locs 0 0 (QI X shM nM s args below out) (F0 m 22 ls []) := by
  intro N x1 S H locs ls hf hw hl
  unfold f_X11_text_22 at hf
  refine lv_iload_n C.1.1 C.1.2.1 dX11_text_22 rfl (lv_at hl 1 rfl) ?_
  refine r_iconst (v := 1) C dX11_text_23 ?_
  refine r_icmp_ne C (tgt := 69) dX11_text_24 (by decide) hf (fun hf => ?_) (fun hf => ?_)
  · refine r_iconst (v := (-1)) C dX11_text_69 ?_
    exact r_retI C hw dX11_text_70 hf
  · refine lv_aload_n C.1.1 C.1.2.1 dX11_text_27 rfl (lv_at hl 0 rfl) ?_
    refine r_getI (k := 21) C hw shM_0 ltM_0 cO11 rfl (by decide) tw5_165 rfl dX11_text_28 hf (fun v28 hf => ?_)
    refine r_iconst (v := 4) C dX11_text_31 ?_
    refine r_icmp_ge C (tgt := 69) dX11_text_32 (by decide) hf (fun hf => ?_) (fun hf => ?_)
    · refine r_iconst (v := (-1)) C dX11_text_69 ?_
      exact r_retI C hw dX11_text_70 hf
    · refine lv_aload_n C.1.1 C.1.2.1 dX11_text_35 rfl (lv_at hl 0 rfl) ?_
      refine lv_aload_n C.1.1 C.1.2.1 dX11_text_36 rfl (lv_at hl 0 rfl) ?_
      refine r_getI (k := 21) C hw shM_0 ltM_0 cO11 rfl (by decide) tw5_165 rfl dX11_text_37 hf (fun v37 hf => ?_)
      refine r_callI (As := [.int (iz v37)]) (rest := []) (rm := rmX11_readScript) C hw shM_0 ltM_0 cO11 tw6_151 tw6_153 tp_57 tw1_12 tw6_154 hd_X11_readScript rfl ⟨⟨rfl, rfl⟩, Nat.le_of_ble_eq_true rfl, Nat.le_of_ble_eq_true rfl⟩ hl.1 rfl (Nat.le_of_ble_eq_true rfl) dX11_text_40 hf (fun o ho => c_X11_readScript l X hinj hZ N S v37 o ho) (fun v40 S40 H locs hf hw => ?_)
      refine r_iconst (v := (-1)) C dX11_text_43 ?_
      refine r_icmp_ne C (tgt := 69) dX11_text_44 (by decide) hf (fun hf => ?_) (fun hf => ?_)
      · refine r_iconst (v := (-1)) C dX11_text_69 ?_
        exact r_retI C hw dX11_text_70 hf
      · refine lv_aload_n C.1.1 C.1.2.1 dX11_text_47 rfl (lv_at hl 0 rfl) ?_
        refine r_iconst (v := 0) C dX11_text_48 ?_
        refine r_putI (k := 2) C hw shM_0 ltM_0 cO11 rfl (by decide) tw5_146 rfl rfl rfl dX11_text_49 hf (fun S49 H locs hf hw => ?_)
        refine lv_aload_n C.1.1 C.1.2.1 dX11_text_52 rfl (lv_at hl 0 rfl) ?_
        refine lv_dup C.1.1 C.1.2.1 dX11_text_53 rfl ?_
        refine r_getI (k := 21) C hw shM_0 ltM_0 cO11 rfl (by decide) tw5_165 rfl dX11_text_54 hf (fun v54 hf => ?_)
        refine r_iconst (v := 1) C dX11_text_57 ?_
        refine r_iadd C dX11_text_58 ?_
        refine r_putI (k := 21) C hw shM_0 ltM_0 cO11 rfl (by decide) tw5_165 rfl rfl rfl dX11_text_59 hf (fun S59 H locs hf hw => ?_)
        refine lv_aload_n C.1.1 C.1.2.1 dX11_text_62 rfl (lv_at hl 0 rfl) ?_
        refine r_getI (k := 21) C hw shM_0 ltM_0 cO11 rfl (by decide) tw5_165 rfl dX11_text_63 hf (fun v63 hf => ?_)
        refine r_iconst (v := 1) C dX11_text_66 ?_
        refine r_isub C dX11_text_67 ?_
        exact r_retI C hw dX11_text_68 hf
set_option maxRecDepth 100000 in
set_option maxHeartbeats 4000000 in
theorem c_X11_text (l : Launch) (X : XT) (hinj : XInj X nM) (hZ : ZOK (Zm X)) (N : Nat) (S : S2) (a1 : Int) (out : Int × S2) (hf : f_X11_text N S a1 = some out) : MI l X shM nM (Zm X) yX11_text cX11_text 2 (some .int) rmX11_text [.ref (X.2.2 0), .int (iz a1)] S out := by
  refine met_I (own := RX11) (by decide) rfl hinj hZ (Nat.le_of_ble_eq_true rfl) (fun p e s m args below meth c C ls H locs hw hl => ?_)
  unfold f_X11_text at hf
  have hl : lv_has ls 2 [(0, .ref (X.2.2 0)), (1, .int (iz a1))] := hl
  refine lv_iload_n C.1.1 C.1.2.1 dX11_text_0 rfl (lv_at hl 1 rfl) ?_
  refine r_if_ne C (tgt := 22) dX11_text_1 (by decide) hf (fun hf => ?_) (fun hf => ?_)
  · exact (w_X11_text_22 l hinj hZ C out N) a1 S H locs ls hf hw (lv_sub hl [0, 1] rfl)
  · refine lv_aload_n C.1.1 C.1.2.1 dX11_text_4 rfl (lv_at hl 0 rfl) ?_
    refine r_callI (As := []) (rest := []) (rm := rmX11_readTrace) C hw shM_0 ltM_0 cO11 tw6_84 tw6_86 tp_45 tw1_12 tw6_87 hd_X11_readTrace rfl ⟨⟨rfl, rfl⟩, Nat.le_of_ble_eq_true rfl, Nat.le_of_ble_eq_true rfl⟩ hl.1 rfl (Nat.le_of_ble_eq_true rfl) dX11_text_5 hf (fun o ho => c_X11_readTrace l X hinj hZ N S o ho) (fun v5 S5 H locs hf hw => ?_)
    refine r_iconst (v := (-1)) C dX11_text_8 ?_
    refine r_icmp_ne C (tgt := 22) dX11_text_9 (by decide) hf (fun hf => ?_) (fun hf => ?_)
    · exact (w_X11_text_22 l hinj hZ C out N) a1 S5 H locs ls hf hw (lv_sub hl [0, 1] rfl)
    · refine lv_aload_n C.1.1 C.1.2.1 dX11_text_12 rfl (lv_at hl 0 rfl) ?_
      refine r_iconst (v := 0) C dX11_text_13 ?_
      refine r_putI (k := 2) C hw shM_0 ltM_0 cO11 rfl (by decide) tw5_146 rfl rfl rfl dX11_text_14 hf (fun S14 H locs hf hw => ?_)
      refine lv_aload_n C.1.1 C.1.2.1 dX11_text_17 rfl (lv_at hl 0 rfl) ?_
      refine r_callI (As := []) (rest := []) (rm := rmX11_takeTrace) C hw shM_0 ltM_0 cO11 tw6_188 tw6_190 tp_59 tw1_12 tw6_191 hd_X11_takeTrace rfl ⟨⟨rfl, rfl⟩, Nat.le_of_ble_eq_true rfl, Nat.le_of_ble_eq_true rfl⟩ hl.1 rfl (Nat.le_of_ble_eq_true rfl) dX11_text_18 hf (fun o ho => c_X11_takeTrace l X hinj hZ N S14 o ho) (fun v18 S18 H locs hf hw => ?_)
      exact r_retI C hw dX11_text_21 hf
def f_X11_isAhead_35 (N : Nat) (S : S2) : Option (Int × S2) := rZ 1 S
def f_X11_isAhead (N : Nat) (S : S2) (a1 : Int) (a2 : Int) : Option (Int × S2) := aI S 8 231 a1 fun v5 => aI S 8 231 a2 fun v11 => cI v5 v11 (if v11 < v5 then (f_X11_isAhead_35 N) S else aI S 8 231 a1 fun v20 => aI S 8 231 a2 fun v26 => cI v20 v26 (if v20 = v26 then cI a1 a2 (if a2 ≤ a1 then rZ 0 S else (f_X11_isAhead_35 N) S) else rZ 0 S))
abbrev rmX11_isAhead : Room := { frames := 0, cells := 0, slots := 0, locals := 0 }
theorem hd_X11_isAhead : yX11_isAhead.cls ≠ "java/lang/invoke/MethodHandle" ∧ yX11_isAhead.cls ≠ "java/lang/invoke/VarHandle" ∧ (parseMethodDescriptor yX11_isAhead.desc).map (fun d => d.parameters.length) = some 2 := by decide +kernel
set_option maxRecDepth 100000 in
set_option maxHeartbeats 4000000 in
theorem w_X11_isAhead_35 {p : Program} (l : Launch) {e : Env} {s : State} {m : MethodId} {args : Array Value} {below : List Frame} {meth : Method} {c : Code} {X : XT} (hinj : XInj X nM) (hZ : ZOK (Zm X)) (C : CX p s m args meth c cX11_isAhead 3 RX11 (some .boolean) X nM (Zm X)) (out : Int × S2) : ∀ (N : Nat), ∀ (S : S2) (H : Heap) (locs : List Loc) (ls : Array Slot), f_X11_isAhead_35 N S = some out → WH X shM nM s S H locs → lv_has ls 3 [] → W p l e rmX11_isAhead s m args below meth c H locs 0 0 (QI X shM nM s args below out) (F0 m 35 ls []) := by
  intro N S H locs ls hf hw hl
  unfold f_X11_isAhead_35 at hf
  refine r_iconst (v := 1) C dX11_isAhead_35 ?_
  refine lv_goto (tgt := 40) C.1.1 C.1.2.1 dX11_isAhead_36 (by decide) ?_
  exact r_retZ C hw dX11_isAhead_40 hf
set_option maxRecDepth 100000 in
set_option maxHeartbeats 4000000 in
theorem c_X11_isAhead (l : Launch) (X : XT) (hinj : XInj X nM) (hZ : ZOK (Zm X)) (N : Nat) (S : S2) (a1 : Int) (a2 : Int) (out : Int × S2) (hf : f_X11_isAhead N S a1 a2 = some out) : MI l X shM nM (Zm X) yX11_isAhead cX11_isAhead 3 (some .boolean) rmX11_isAhead [.ref (X.2.2 0), .int (iz a1), .int (iz a2)] S out := by
  refine met_I (own := RX11) (by decide) rfl hinj hZ (Nat.le_of_ble_eq_true rfl) (fun p e s m args below meth c C ls H locs hw hl => ?_)
  unfold f_X11_isAhead at hf
  have hl : lv_has ls 3 [(0, .ref (X.2.2 0)), (1, .int (iz a1)), (2, .int (iz a2))] := hl
  refine lv_aload_n C.1.1 C.1.2.1 dX11_isAhead_0 rfl (lv_at hl 0 rfl) ?_
  refine r_getR (k := 22) C hw shM_0 ltM_0 cO11 rfl (by decide) tw5_166 rfl dX11_isAhead_1 ?_
  refine lv_iload_n C.1.1 C.1.2.1 dX11_isAhead_4 rfl (lv_at hl 1 rfl) ?_
  refine r_iald C hw shM_8 ltM_8 (Nat.le_of_ble_eq_true rfl) dX11_isAhead_5 hf (fun v5 hf => ?_)
  refine lv_aload_n C.1.1 C.1.2.1 dX11_isAhead_6 rfl (lv_at hl 0 rfl) ?_
  refine r_getR (k := 22) C hw shM_0 ltM_0 cO11 rfl (by decide) tw5_166 rfl dX11_isAhead_7 ?_
  refine lv_iload_n C.1.1 C.1.2.1 dX11_isAhead_10 rfl (lv_at hl 2 rfl) ?_
  refine r_iald C hw shM_8 ltM_8 (Nat.le_of_ble_eq_true rfl) dX11_isAhead_11 hf (fun v11 hf => ?_)
  refine r_icmp_gt C (tgt := 35) dX11_isAhead_12 (by decide) hf (fun hf => ?_) (fun hf => ?_)
  · exact (w_X11_isAhead_35 l hinj hZ C out N) S H locs ls hf hw (lv_sub hl [] rfl)
  · refine lv_aload_n C.1.1 C.1.2.1 dX11_isAhead_15 rfl (lv_at hl 0 rfl) ?_
    refine r_getR (k := 22) C hw shM_0 ltM_0 cO11 rfl (by decide) tw5_166 rfl dX11_isAhead_16 ?_
    refine lv_iload_n C.1.1 C.1.2.1 dX11_isAhead_19 rfl (lv_at hl 1 rfl) ?_
    refine r_iald C hw shM_8 ltM_8 (Nat.le_of_ble_eq_true rfl) dX11_isAhead_20 hf (fun v20 hf => ?_)
    refine lv_aload_n C.1.1 C.1.2.1 dX11_isAhead_21 rfl (lv_at hl 0 rfl) ?_
    refine r_getR (k := 22) C hw shM_0 ltM_0 cO11 rfl (by decide) tw5_166 rfl dX11_isAhead_22 ?_
    refine lv_iload_n C.1.1 C.1.2.1 dX11_isAhead_25 rfl (lv_at hl 2 rfl) ?_
    refine r_iald C hw shM_8 ltM_8 (Nat.le_of_ble_eq_true rfl) dX11_isAhead_26 hf (fun v26 hf => ?_)
    refine r_icmp_ne C (tgt := 39) dX11_isAhead_27 (by decide) hf (fun hf => ?_) (fun hf => ?_)
    · refine r_iconst (v := 0) C dX11_isAhead_39 ?_
      exact r_retZ C hw dX11_isAhead_40 hf
    · refine lv_iload_n C.1.1 C.1.2.1 dX11_isAhead_30 rfl (lv_at hl 1 rfl) ?_
      refine lv_iload_n C.1.1 C.1.2.1 dX11_isAhead_31 rfl (lv_at hl 2 rfl) ?_
      refine r_icmp_ge C (tgt := 39) dX11_isAhead_32 (by decide) hf (fun hf => ?_) (fun hf => ?_)
      · refine r_iconst (v := 0) C dX11_isAhead_39 ?_
        exact r_retZ C hw dX11_isAhead_40 hf
      · exact (w_X11_isAhead_35 l hinj hZ C out N) S H locs ls hf hw (lv_sub hl [] rfl)
def f_X11_nextBehind_57 (k4 : Int → Int → Int → S2 → Option (Int × S2)) (N : Nat) (x1 : Int) (x3 : Int) (y0 : Int) (S : S2) : Option (Int × S2) := k4 x1 y0 (x3 + 1) S
def f_X11_nextBehind_56 (k4 : Int → Int → Int → S2 → Option (Int × S2)) (N : Nat) (x1 : Int) (x2 : Int) (x3 : Int) (S : S2) : Option (Int × S2) := (f_X11_nextBehind_57 k4 N) x1 x3 x2 S
def f_X11_nextBehind_52 (k4 : Int → Int → Int → S2 → Option (Int × S2)) (N : Nat) (x1 : Int) (x3 : Int) (S : S2) : Option (Int × S2) := (f_X11_nextBehind_57 k4 N) x1 x3 x3 S
def f_X11_nextBehind_31 (k4 : Int → Int → Int → S2 → Option (Int × S2)) (N : Nat) (x1 : Int) (x2 : Int) (x3 : Int) (y0 : Int) (S : S2) : Option (Int × S2) := cI y0 0 (if y0 = 0 then (f_X11_nextBehind_56 k4 N) x1 x2 x3 S else cI x2 (-1) (if x2 = (-1) then (f_X11_nextBehind_52 k4 N) x1 x3 S else bI (f_X11_isAhead N S x3 x2) fun v46 S46 => cI v46 0 (if v46 = 0 then (f_X11_nextBehind_56 k4 N) x1 x2 x3 S46 else (f_X11_nextBehind_52 k4 N) x1 x3 S46)))
def f_X11_nextBehind_26 (k4 : Int → Int → Int → S2 → Option (Int × S2)) (N : Nat) (x1 : Int) (x2 : Int) (x3 : Int) (S : S2) : Option (Int × S2) := (f_X11_nextBehind_31 k4 N) x1 x2 x3 1 S
def f_X11_nextBehind_4 : Nat → Int → Int → Int → S2 → Option (Int × S2)
  | 0, _, _, _, _ => none
  | N + 1, x1, x2, x3, S => bI (f_X11_many N S) fun v6 S6 => cI x3 v6 (if v6 ≤ x3 then rI x2 S6 else cI x1 (-1) (if x1 = (-1) then (f_X11_nextBehind_26 (f_X11_nextBehind_4 N) N) x1 x2 x3 S6 else bI (f_X11_isAhead N S6 x1 x3) fun v20 S20 => cI v20 0 (if v20 = 0 then (f_X11_nextBehind_31 (f_X11_nextBehind_4 N) N) x1 x2 x3 0 S20 else (f_X11_nextBehind_26 (f_X11_nextBehind_4 N) N) x1 x2 x3 S20)))
def f_X11_nextBehind (N : Nat) (S : S2) (a1 : Int) : Option (Int × S2) := (f_X11_nextBehind_4 N) a1 (-1) 0 S
abbrev rmX11_nextBehind : Room := { frames := 1, cells := 0, slots := 0, locals := 22 }
theorem hd_X11_nextBehind : yX11_nextBehind.cls ≠ "java/lang/invoke/MethodHandle" ∧ yX11_nextBehind.cls ≠ "java/lang/invoke/VarHandle" ∧ (parseMethodDescriptor yX11_nextBehind.desc).map (fun d => d.parameters.length) = some 1 := by decide +kernel
set_option maxRecDepth 100000 in
set_option maxHeartbeats 4000000 in
theorem w_X11_nextBehind_57 {p : Program} (l : Launch) {e : Env} {s : State} {m : MethodId} {args : Array Value} {below : List Frame} {meth : Method} {c : Code} {X : XT} (hinj : XInj X nM) (hZ : ZOK (Zm X)) (C : CX p s m args meth c cX11_nextBehind 5 RX11 (some .int) X nM (Zm X)) (out : Int × S2) (k4 : Int → Int → Int → S2 → Option (Int × S2)) (hk4 : ∀ (x1 : Int) (x2 : Int) (x3 : Int) (S : S2) (H : Heap) (locs : List Loc) (ls : Array Slot), k4 x1 x2 x3 S = some out → WH X shM nM s S H locs → lv_has ls 5 [(0, .ref (X.2.2 0)), (1, .int (iz x1)), (2, .int (iz x2)), (3, .int (iz x3))] → W p l e rmX11_nextBehind s m args below meth c H locs 0 0 (QI X shM nM s args below out) (F0 m 4 ls [])) : ∀ (N : Nat), ∀ (x1 : Int) (x3 : Int) (y0 : Int) (S : S2) (H : Heap) (locs : List Loc) (ls : Array Slot), f_X11_nextBehind_57 k4 N x1 x3 y0 S = some out → WH X shM nM s S H locs → lv_has ls 5 [(0, .ref (X.2.2 0)), (1, .int (iz x1)), (3, .int (iz x3))] → W p l e rmX11_nextBehind s m args below meth c H locs 0 0 (QI X shM nM s args below out) (F0 m 57 ls [.int (iz y0)]) := by
  intro N x1 x3 y0 S H locs ls hf hw hl
  unfold f_X11_nextBehind_57 at hf
  refine lv_istore_n (lv' := [(2, .int (iz y0)), (0, .ref (X.2.2 0)), (1, .int (iz x1)), (3, .int (iz x3))]) C.1.1 C.1.2.1 dX11_nextBehind_57 rfl hl (by decide) rfl (fun ls hl => ?_)
  refine lv_iinc (v := iz (x3 + 1)) (lv' := [(3, .int (iz (x3 + 1))), (2, .int (iz y0)), (0, .ref (X.2.2 0)), (1, .int (iz x1))]) C.1.1 C.1.2.1 dX11_nextBehind_58 hl (k := 3) rfl (iz_add _ _) (by decide) rfl (fun ls hl => ?_)
  refine lv_goto (tgt := 4) C.1.1 C.1.2.1 dX11_nextBehind_61 (by decide) ?_
  exact hk4 x1 y0 (x3 + 1) S H locs ls hf hw (lv_sub hl [2, 3, 1, 0] rfl)
set_option maxRecDepth 100000 in
set_option maxHeartbeats 4000000 in
theorem w_X11_nextBehind_56 {p : Program} (l : Launch) {e : Env} {s : State} {m : MethodId} {args : Array Value} {below : List Frame} {meth : Method} {c : Code} {X : XT} (hinj : XInj X nM) (hZ : ZOK (Zm X)) (C : CX p s m args meth c cX11_nextBehind 5 RX11 (some .int) X nM (Zm X)) (out : Int × S2) (k4 : Int → Int → Int → S2 → Option (Int × S2)) (hk4 : ∀ (x1 : Int) (x2 : Int) (x3 : Int) (S : S2) (H : Heap) (locs : List Loc) (ls : Array Slot), k4 x1 x2 x3 S = some out → WH X shM nM s S H locs → lv_has ls 5 [(0, .ref (X.2.2 0)), (1, .int (iz x1)), (2, .int (iz x2)), (3, .int (iz x3))] → W p l e rmX11_nextBehind s m args below meth c H locs 0 0 (QI X shM nM s args below out) (F0 m 4 ls [])) : ∀ (N : Nat), ∀ (x1 : Int) (x2 : Int) (x3 : Int) (S : S2) (H : Heap) (locs : List Loc) (ls : Array Slot), f_X11_nextBehind_56 k4 N x1 x2 x3 S = some out → WH X shM nM s S H locs → lv_has ls 5 [(0, .ref (X.2.2 0)), (1, .int (iz x1)), (2, .int (iz x2)), (3, .int (iz x3))] → W p l e rmX11_nextBehind s m args below meth c H locs 0 0 (QI X shM nM s args below out) (F0 m 56 ls []) := by
  intro N x1 x2 x3 S H locs ls hf hw hl
  unfold f_X11_nextBehind_56 at hf
  refine lv_iload_n C.1.1 C.1.2.1 dX11_nextBehind_56 rfl (lv_at hl 2 rfl) ?_
  exact (w_X11_nextBehind_57 l hinj hZ C out k4 hk4 N) x1 x3 x2 S H locs ls hf hw (lv_sub hl [0, 1, 3] rfl)
set_option maxRecDepth 100000 in
set_option maxHeartbeats 4000000 in
theorem w_X11_nextBehind_52 {p : Program} (l : Launch) {e : Env} {s : State} {m : MethodId} {args : Array Value} {below : List Frame} {meth : Method} {c : Code} {X : XT} (hinj : XInj X nM) (hZ : ZOK (Zm X)) (C : CX p s m args meth c cX11_nextBehind 5 RX11 (some .int) X nM (Zm X)) (out : Int × S2) (k4 : Int → Int → Int → S2 → Option (Int × S2)) (hk4 : ∀ (x1 : Int) (x2 : Int) (x3 : Int) (S : S2) (H : Heap) (locs : List Loc) (ls : Array Slot), k4 x1 x2 x3 S = some out → WH X shM nM s S H locs → lv_has ls 5 [(0, .ref (X.2.2 0)), (1, .int (iz x1)), (2, .int (iz x2)), (3, .int (iz x3))] → W p l e rmX11_nextBehind s m args below meth c H locs 0 0 (QI X shM nM s args below out) (F0 m 4 ls [])) : ∀ (N : Nat), ∀ (x1 : Int) (x3 : Int) (S : S2) (H : Heap) (locs : List Loc) (ls : Array Slot), f_X11_nextBehind_52 k4 N x1 x3 S = some out → WH X shM nM s S H locs → lv_has ls 5 [(0, .ref (X.2.2 0)), (1, .int (iz x1)), (3, .int (iz x3))] → W p l e rmX11_nextBehind s m args below meth c H locs 0 0 (QI X shM nM s args below out) (F0 m 52 ls []) := by
  intro N x1 x3 S H locs ls hf hw hl
  unfold f_X11_nextBehind_52 at hf
  refine lv_iload_n C.1.1 C.1.2.1 dX11_nextBehind_52 rfl (lv_at hl 2 rfl) ?_
  refine lv_goto (tgt := 57) C.1.1 C.1.2.1 dX11_nextBehind_53 (by decide) ?_
  exact (w_X11_nextBehind_57 l hinj hZ C out k4 hk4 N) x1 x3 x3 S H locs ls hf hw (lv_sub hl [0, 1, 2] rfl)
set_option maxRecDepth 100000 in
set_option maxHeartbeats 4000000 in
theorem w_X11_nextBehind_31 {p : Program} (l : Launch) {e : Env} {s : State} {m : MethodId} {args : Array Value} {below : List Frame} {meth : Method} {c : Code} {X : XT} (hinj : XInj X nM) (hZ : ZOK (Zm X)) (C : CX p s m args meth c cX11_nextBehind 5 RX11 (some .int) X nM (Zm X)) (out : Int × S2) (k4 : Int → Int → Int → S2 → Option (Int × S2)) (hk4 : ∀ (x1 : Int) (x2 : Int) (x3 : Int) (S : S2) (H : Heap) (locs : List Loc) (ls : Array Slot), k4 x1 x2 x3 S = some out → WH X shM nM s S H locs → lv_has ls 5 [(0, .ref (X.2.2 0)), (1, .int (iz x1)), (2, .int (iz x2)), (3, .int (iz x3))] → W p l e rmX11_nextBehind s m args below meth c H locs 0 0 (QI X shM nM s args below out) (F0 m 4 ls [])) : ∀ (N : Nat), ∀ (x1 : Int) (x2 : Int) (x3 : Int) (y0 : Int) (S : S2) (H : Heap) (locs : List Loc) (ls : Array Slot), f_X11_nextBehind_31 k4 N x1 x2 x3 y0 S = some out → WH X shM nM s S H locs → lv_has ls 5 [(0, .ref (X.2.2 0)), (1, .int (iz x1)), (2, .int (iz x2)), (3, .int (iz x3))] → W p l e rmX11_nextBehind s m args below meth c H locs 0 0 (QI X shM nM s args below out) (F0 m 31 ls [.int (iz y0)]) := by
  intro N x1 x2 x3 y0 S H locs ls hf hw hl
  unfold f_X11_nextBehind_31 at hf
  refine lv_istore (lv' := [(4, .int (iz y0)), (0, .ref (X.2.2 0)), (1, .int (iz x1)), (2, .int (iz x2)), (3, .int (iz x3))]) C.1.1 C.1.2.1 dX11_nextBehind_31 hl (by decide) rfl (fun ls hl => ?_)
  refine lv_iload C.1.1 C.1.2.1 dX11_nextBehind_33 (lv_at hl 0 rfl) ?_
  refine r_if_eq C (tgt := 56) dX11_nextBehind_35 (by decide) hf (fun hf => ?_) (fun hf => ?_)
  · exact (w_X11_nextBehind_56 l hinj hZ C out k4 hk4 N) x1 x2 x3 S H locs ls hf hw (lv_sub hl [1, 2, 3, 4] rfl)
  · refine lv_iload_n C.1.1 C.1.2.1 dX11_nextBehind_38 rfl (lv_at hl 3 rfl) ?_
    refine r_iconst (v := (-1)) C dX11_nextBehind_39 ?_
    refine r_icmp_eq C (tgt := 52) dX11_nextBehind_40 (by decide) hf (fun hf => ?_) (fun hf => ?_)
    · exact (w_X11_nextBehind_52 l hinj hZ C out k4 hk4 N) x1 x3 S H locs ls hf hw (lv_sub hl [1, 2, 4] rfl)
    · refine lv_aload_n C.1.1 C.1.2.1 dX11_nextBehind_43 rfl (lv_at hl 1 rfl) ?_
      refine lv_iload_n C.1.1 C.1.2.1 dX11_nextBehind_44 rfl (lv_at hl 4 rfl) ?_
      refine lv_iload_n C.1.1 C.1.2.1 dX11_nextBehind_45 rfl (lv_at hl 3 rfl) ?_
      refine r_callI (As := [.int (iz x3), .int (iz x2)]) (rest := []) (rm := rmX11_isAhead) C hw shM_0 ltM_0 cO11 tw7_13 tw7_15 tp_73 tw1_12 tw7_16 hd_X11_isAhead rfl ⟨⟨rfl, rfl⟩, Nat.le_of_ble_eq_true rfl, Nat.le_of_ble_eq_true rfl⟩ hl.1 rfl (Nat.le_of_ble_eq_true rfl) dX11_nextBehind_46 hf (fun o ho => c_X11_isAhead l X hinj hZ N S x3 x2 o ho) (fun v46 S46 H locs hf hw => ?_)
      refine r_if_eq C (tgt := 56) dX11_nextBehind_49 (by decide) hf (fun hf => ?_) (fun hf => ?_)
      · exact (w_X11_nextBehind_56 l hinj hZ C out k4 hk4 N) x1 x2 x3 S46 H locs ls hf hw (lv_sub hl [1, 2, 3, 4] rfl)
      · exact (w_X11_nextBehind_52 l hinj hZ C out k4 hk4 N) x1 x3 S46 H locs ls hf hw (lv_sub hl [1, 2, 4] rfl)
set_option maxRecDepth 100000 in
set_option maxHeartbeats 4000000 in
theorem w_X11_nextBehind_26 {p : Program} (l : Launch) {e : Env} {s : State} {m : MethodId} {args : Array Value} {below : List Frame} {meth : Method} {c : Code} {X : XT} (hinj : XInj X nM) (hZ : ZOK (Zm X)) (C : CX p s m args meth c cX11_nextBehind 5 RX11 (some .int) X nM (Zm X)) (out : Int × S2) (k4 : Int → Int → Int → S2 → Option (Int × S2)) (hk4 : ∀ (x1 : Int) (x2 : Int) (x3 : Int) (S : S2) (H : Heap) (locs : List Loc) (ls : Array Slot), k4 x1 x2 x3 S = some out → WH X shM nM s S H locs → lv_has ls 5 [(0, .ref (X.2.2 0)), (1, .int (iz x1)), (2, .int (iz x2)), (3, .int (iz x3))] → W p l e rmX11_nextBehind s m args below meth c H locs 0 0 (QI X shM nM s args below out) (F0 m 4 ls [])) : ∀ (N : Nat), ∀ (x1 : Int) (x2 : Int) (x3 : Int) (S : S2) (H : Heap) (locs : List Loc) (ls : Array Slot), f_X11_nextBehind_26 k4 N x1 x2 x3 S = some out → WH X shM nM s S H locs → lv_has ls 5 [(0, .ref (X.2.2 0)), (1, .int (iz x1)), (2, .int (iz x2)), (3, .int (iz x3))] → W p l e rmX11_nextBehind s m args below meth c H locs 0 0 (QI X shM nM s args below out) (F0 m 26 ls []) := by
  intro N x1 x2 x3 S H locs ls hf hw hl
  unfold f_X11_nextBehind_26 at hf
  refine r_iconst (v := 1) C dX11_nextBehind_26 ?_
  refine lv_goto (tgt := 31) C.1.1 C.1.2.1 dX11_nextBehind_27 (by decide) ?_
  exact (w_X11_nextBehind_31 l hinj hZ C out k4 hk4 N) x1 x2 x3 1 S H locs ls hf hw (lv_sub hl [0, 1, 2, 3] rfl)
set_option maxRecDepth 100000 in
set_option maxHeartbeats 4000000 in
theorem w_X11_nextBehind_4 {p : Program} (l : Launch) {e : Env} {s : State} {m : MethodId} {args : Array Value} {below : List Frame} {meth : Method} {c : Code} {X : XT} (hinj : XInj X nM) (hZ : ZOK (Zm X)) (C : CX p s m args meth c cX11_nextBehind 5 RX11 (some .int) X nM (Zm X)) (out : Int × S2) : ∀ (N : Nat), ∀ (x1 : Int) (x2 : Int) (x3 : Int) (S : S2) (H : Heap) (locs : List Loc) (ls : Array Slot), f_X11_nextBehind_4 N x1 x2 x3 S = some out → WH X shM nM s S H locs → lv_has ls 5 [(0, .ref (X.2.2 0)), (1, .int (iz x1)), (2, .int (iz x2)), (3, .int (iz x3))] → W p l e rmX11_nextBehind s m args below meth c H locs 0 0 (QI X shM nM s args below out) (F0 m 4 ls []) := by
  intro N
  induction N with
  | zero => intro x1 x2 x3 S H locs ls hf hw hl; cases hf
  | succ N ih =>
    intro x1 x2 x3 S H locs ls hf hw hl
    rw [f_X11_nextBehind_4.eq_2] at hf
    refine lv_iload_n C.1.1 C.1.2.1 dX11_nextBehind_4 rfl (lv_at hl 3 rfl) ?_
    refine lv_aload_n C.1.1 C.1.2.1 dX11_nextBehind_5 rfl (lv_at hl 0 rfl) ?_
    refine r_callI (As := []) (rest := [.int (iz x3)]) (rm := rmX11_many) C hw shM_0 ltM_0 cO11 tw6_192 tw6_194 tp_60 tw1_12 tw6_195 hd_X11_many rfl ⟨⟨rfl, rfl⟩, Nat.le_of_ble_eq_true rfl, Nat.le_of_ble_eq_true rfl⟩ hl.1 rfl (Nat.le_of_ble_eq_true rfl) dX11_nextBehind_6 hf (fun o ho => c_X11_many l X hinj hZ N S o ho) (fun v6 S6 H locs hf hw => ?_)
    refine r_icmp_ge C (tgt := 64) dX11_nextBehind_9 (by decide) hf (fun hf => ?_) (fun hf => ?_)
    · refine lv_iload_n C.1.1 C.1.2.1 dX11_nextBehind_64 rfl (lv_at hl 2 rfl) ?_
      exact r_retI C hw dX11_nextBehind_65 hf
    · refine lv_iload_n C.1.1 C.1.2.1 dX11_nextBehind_12 rfl (lv_at hl 1 rfl) ?_
      refine r_iconst (v := (-1)) C dX11_nextBehind_13 ?_
      refine r_icmp_eq C (tgt := 26) dX11_nextBehind_14 (by decide) hf (fun hf => ?_) (fun hf => ?_)
      · exact (w_X11_nextBehind_26 l hinj hZ C out (f_X11_nextBehind_4 N) ih N) x1 x2 x3 S6 H locs ls hf hw (lv_sub hl [0, 1, 2, 3] rfl)
      · refine lv_aload_n C.1.1 C.1.2.1 dX11_nextBehind_17 rfl (lv_at hl 0 rfl) ?_
        refine lv_iload_n C.1.1 C.1.2.1 dX11_nextBehind_18 rfl (lv_at hl 1 rfl) ?_
        refine lv_iload_n C.1.1 C.1.2.1 dX11_nextBehind_19 rfl (lv_at hl 3 rfl) ?_
        refine r_callI (As := [.int (iz x1), .int (iz x3)]) (rest := []) (rm := rmX11_isAhead) C hw shM_0 ltM_0 cO11 tw7_13 tw7_15 tp_73 tw1_12 tw7_16 hd_X11_isAhead rfl ⟨⟨rfl, rfl⟩, Nat.le_of_ble_eq_true rfl, Nat.le_of_ble_eq_true rfl⟩ hl.1 rfl (Nat.le_of_ble_eq_true rfl) dX11_nextBehind_20 hf (fun o ho => c_X11_isAhead l X hinj hZ N S6 x1 x3 o ho) (fun v20 S20 H locs hf hw => ?_)
        refine r_if_eq C (tgt := 30) dX11_nextBehind_23 (by decide) hf (fun hf => ?_) (fun hf => ?_)
        · refine r_iconst (v := 0) C dX11_nextBehind_30 ?_
          exact (w_X11_nextBehind_31 l hinj hZ C out (f_X11_nextBehind_4 N) ih N) x1 x2 x3 0 S20 H locs ls hf hw (lv_sub hl [0, 1, 2, 3] rfl)
        · exact (w_X11_nextBehind_26 l hinj hZ C out (f_X11_nextBehind_4 N) ih N) x1 x2 x3 S20 H locs ls hf hw (lv_sub hl [0, 1, 2, 3] rfl)
set_option maxRecDepth 100000 in
set_option maxHeartbeats 4000000 in
theorem c_X11_nextBehind (l : Launch) (X : XT) (hinj : XInj X nM) (hZ : ZOK (Zm X)) (N : Nat) (S : S2) (a1 : Int) (out : Int × S2) (hf : f_X11_nextBehind N S a1 = some out) : MI l X shM nM (Zm X) yX11_nextBehind cX11_nextBehind 5 (some .int) rmX11_nextBehind [.ref (X.2.2 0), .int (iz a1)] S out := by
  refine met_I (own := RX11) (by decide) rfl hinj hZ (Nat.le_of_ble_eq_true rfl) (fun p e s m args below meth c C ls H locs hw hl => ?_)
  unfold f_X11_nextBehind at hf
  have hl : lv_has ls 5 [(0, .ref (X.2.2 0)), (1, .int (iz a1))] := hl
  refine r_iconst (v := (-1)) C dX11_nextBehind_0 ?_
  refine lv_istore_n (lv' := [(2, .int (iz (-1))), (0, .ref (X.2.2 0)), (1, .int (iz a1))]) C.1.1 C.1.2.1 dX11_nextBehind_1 rfl hl (by decide) rfl (fun ls hl => ?_)
  refine r_iconst (v := 0) C dX11_nextBehind_2 ?_
  refine lv_istore_n (lv' := [(3, .int (iz 0)), (2, .int (iz (-1))), (0, .ref (X.2.2 0)), (1, .int (iz a1))]) C.1.1 C.1.2.1 dX11_nextBehind_3 rfl hl (by decide) rfl (fun ls hl => ?_)
  exact (w_X11_nextBehind_4 l hinj hZ C out N) a1 (-1) 0 S H locs ls hf hw (lv_sub hl [2, 3, 1, 0] rfl)
def f_X11_belongsAt (N : Nat) (S : S2) (a1 : Int) : Option (Int × S2) := bI (f_X11_many N S) fun v3 S3 => bI (f_X11_in N S3 a1 0 (v3 - 1)) fun v8 S8 => cI v8 0 (if v8 = 0 then rI (-1) S8 else aI S8 17 48 a1 fun v19 => rI v19 S8)
abbrev rmX11_belongsAt : Room := { frames := 1, cells := 0, slots := 0, locals := 22 }
theorem hd_X11_belongsAt : yX11_belongsAt.cls ≠ "java/lang/invoke/MethodHandle" ∧ yX11_belongsAt.cls ≠ "java/lang/invoke/VarHandle" ∧ (parseMethodDescriptor yX11_belongsAt.desc).map (fun d => d.parameters.length) = some 1 := by decide +kernel
set_option maxRecDepth 100000 in
set_option maxHeartbeats 4000000 in
theorem c_X11_belongsAt (l : Launch) (X : XT) (hinj : XInj X nM) (hZ : ZOK (Zm X)) (N : Nat) (S : S2) (a1 : Int) (out : Int × S2) (hf : f_X11_belongsAt N S a1 = some out) : MI l X shM nM (Zm X) yX11_belongsAt cX11_belongsAt 2 (some .int) rmX11_belongsAt [.ref (X.2.2 0), .int (iz a1)] S out := by
  refine met_I (own := RX11) (by decide) rfl hinj hZ (Nat.le_of_ble_eq_true rfl) (fun p e s m args below meth c C ls H locs hw hl => ?_)
  unfold f_X11_belongsAt at hf
  have hl : lv_has ls 2 [(0, .ref (X.2.2 0)), (1, .int (iz a1))] := hl
  refine lv_iload_n C.1.1 C.1.2.1 dX11_belongsAt_0 rfl (lv_at hl 1 rfl) ?_
  refine r_iconst (v := 0) C dX11_belongsAt_1 ?_
  refine lv_aload_n C.1.1 C.1.2.1 dX11_belongsAt_2 rfl (lv_at hl 0 rfl) ?_
  refine r_callI (As := []) (rest := [.int (iz 0), .int (iz a1)]) (rm := rmX11_many) C hw shM_0 ltM_0 cO11 tw6_192 tw6_194 tp_60 tw1_12 tw6_195 hd_X11_many rfl ⟨⟨rfl, rfl⟩, Nat.le_of_ble_eq_true rfl, Nat.le_of_ble_eq_true rfl⟩ hl.1 rfl (Nat.le_of_ble_eq_true rfl) dX11_belongsAt_3 hf (fun o ho => c_X11_many l X hinj hZ N S o ho) (fun v3 S3 H locs hf hw => ?_)
  refine r_iconst (v := 1) C dX11_belongsAt_6 ?_
  refine r_isub C dX11_belongsAt_7 ?_
  refine r_scallI (As := [.int (iz a1), .int (iz 0), .int (iz (v3 - 1))]) (rest := []) (rm := rmX11_in) C hw tw6_77 tw6_78 tw1_12 tw6_79 hd_X11_in rfl ⟨⟨rfl, rfl⟩, Nat.le_of_ble_eq_true rfl, Nat.le_of_ble_eq_true rfl⟩ hl.1 rfl (Nat.le_of_ble_eq_true rfl) dX11_belongsAt_8 hf (fun o ho => c_X11_in l X hinj hZ N S3 a1 0 (v3 - 1) o ho) (fun v8 S8 H locs hf hw => ?_)
  refine r_if_eq C (tgt := 23) dX11_belongsAt_11 (by decide) hf (fun hf => ?_) (fun hf => ?_)
  · refine r_iconst (v := (-1)) C dX11_belongsAt_23 ?_
    exact r_retI C hw dX11_belongsAt_24 hf
  · refine lv_aload_n C.1.1 C.1.2.1 dX11_belongsAt_14 rfl (lv_at hl 0 rfl) ?_
    refine r_getR (k := 34) C hw shM_0 ltM_0 cO11 rfl (by decide) tw5_178 rfl dX11_belongsAt_15 ?_
    refine lv_iload_n C.1.1 C.1.2.1 dX11_belongsAt_18 rfl (lv_at hl 1 rfl) ?_
    refine r_iald C hw shM_17 ltM_17 (Nat.le_of_ble_eq_true rfl) dX11_belongsAt_19 hf (fun v19 hf => ?_)
    refine lv_goto (tgt := 24) C.1.1 C.1.2.1 dX11_belongsAt_20 (by decide) ?_
    exact r_retI C hw dX11_belongsAt_24 hf
def f_X11_beginsAt (N : Nat) (S : S2) (a1 : Int) : Option (S2) := gI S 0 35 fun v5 => sI S 13 48 v5 a1 fun S9 => gI S9 0 35 fun v15 => sI S9 14 48 v15 (-1) fun S19 => gI S19 0 35 fun v25 => sI S19 16 48 v25 (-1) fun S29 => gI S29 0 35 fun v36 => sI S29 17 48 a1 v36 fun S39 => gI S39 0 35 fun v42 => uI S39 0 35 (v42 + 1) fun S47 => rV S47
abbrev rmX11_beginsAt : Room := { frames := 0, cells := 0, slots := 0, locals := 0 }
theorem hd_X11_beginsAt : yX11_beginsAt.cls ≠ "java/lang/invoke/MethodHandle" ∧ yX11_beginsAt.cls ≠ "java/lang/invoke/VarHandle" ∧ (parseMethodDescriptor yX11_beginsAt.desc).map (fun d => d.parameters.length) = some 1 := by decide +kernel
set_option maxRecDepth 100000 in
set_option maxHeartbeats 4000000 in
theorem c_X11_beginsAt (l : Launch) (X : XT) (hinj : XInj X nM) (hZ : ZOK (Zm X)) (N : Nat) (S : S2) (a1 : Int) (out : S2) (hf : f_X11_beginsAt N S a1 = some out) : MV l X shM nM (Zm X) yX11_beginsAt cX11_beginsAt 2 none rmX11_beginsAt [.ref (X.2.2 0), .int (iz a1)] S out := by
  refine met_V (own := RX11) (by decide) rfl hinj hZ (Nat.le_of_ble_eq_true rfl) (fun p e s m args below meth c C ls H locs hw hl => ?_)
  unfold f_X11_beginsAt at hf
  have hl : lv_has ls 2 [(0, .ref (X.2.2 0)), (1, .int (iz a1))] := hl
  refine lv_aload_n C.1.1 C.1.2.1 dX11_beginsAt_0 rfl (lv_at hl 0 rfl) ?_
  refine r_getR (k := 30) C hw shM_0 ltM_0 cO11 rfl (by decide) tw5_174 rfl dX11_beginsAt_1 ?_
  refine lv_aload_n C.1.1 C.1.2.1 dX11_beginsAt_4 rfl (lv_at hl 0 rfl) ?_
  refine r_getI (k := 35) C hw shM_0 ltM_0 cO11 rfl (by decide) tw5_179 rfl dX11_beginsAt_5 hf (fun v5 hf => ?_)
  refine lv_iload_n C.1.1 C.1.2.1 dX11_beginsAt_8 rfl (lv_at hl 1 rfl) ?_
  refine r_iast C hw shM_13 ltM_13 (Nat.le_of_ble_eq_true rfl) dX11_beginsAt_9 hf (fun S9 H locs hf hw => ?_)
  refine lv_aload_n C.1.1 C.1.2.1 dX11_beginsAt_10 rfl (lv_at hl 0 rfl) ?_
  refine r_getR (k := 31) C hw shM_0 ltM_0 cO11 rfl (by decide) tw5_175 rfl dX11_beginsAt_11 ?_
  refine lv_aload_n C.1.1 C.1.2.1 dX11_beginsAt_14 rfl (lv_at hl 0 rfl) ?_
  refine r_getI (k := 35) C hw shM_0 ltM_0 cO11 rfl (by decide) tw5_179 rfl dX11_beginsAt_15 hf (fun v15 hf => ?_)
  refine r_iconst (v := (-1)) C dX11_beginsAt_18 ?_
  refine r_iast C hw shM_14 ltM_14 (Nat.le_of_ble_eq_true rfl) dX11_beginsAt_19 hf (fun S19 H locs hf hw => ?_)
  refine lv_aload_n C.1.1 C.1.2.1 dX11_beginsAt_20 rfl (lv_at hl 0 rfl) ?_
  refine r_getR (k := 33) C hw shM_0 ltM_0 cO11 rfl (by decide) tw5_177 rfl dX11_beginsAt_21 ?_
  refine lv_aload_n C.1.1 C.1.2.1 dX11_beginsAt_24 rfl (lv_at hl 0 rfl) ?_
  refine r_getI (k := 35) C hw shM_0 ltM_0 cO11 rfl (by decide) tw5_179 rfl dX11_beginsAt_25 hf (fun v25 hf => ?_)
  refine r_iconst (v := (-1)) C dX11_beginsAt_28 ?_
  refine r_iast C hw shM_16 ltM_16 (Nat.le_of_ble_eq_true rfl) dX11_beginsAt_29 hf (fun S29 H locs hf hw => ?_)
  refine lv_aload_n C.1.1 C.1.2.1 dX11_beginsAt_30 rfl (lv_at hl 0 rfl) ?_
  refine r_getR (k := 34) C hw shM_0 ltM_0 cO11 rfl (by decide) tw5_178 rfl dX11_beginsAt_31 ?_
  refine lv_iload_n C.1.1 C.1.2.1 dX11_beginsAt_34 rfl (lv_at hl 1 rfl) ?_
  refine lv_aload_n C.1.1 C.1.2.1 dX11_beginsAt_35 rfl (lv_at hl 0 rfl) ?_
  refine r_getI (k := 35) C hw shM_0 ltM_0 cO11 rfl (by decide) tw5_179 rfl dX11_beginsAt_36 hf (fun v36 hf => ?_)
  refine r_iast C hw shM_17 ltM_17 (Nat.le_of_ble_eq_true rfl) dX11_beginsAt_39 hf (fun S39 H locs hf hw => ?_)
  refine lv_aload_n C.1.1 C.1.2.1 dX11_beginsAt_40 rfl (lv_at hl 0 rfl) ?_
  refine lv_dup C.1.1 C.1.2.1 dX11_beginsAt_41 rfl ?_
  refine r_getI (k := 35) C hw shM_0 ltM_0 cO11 rfl (by decide) tw5_179 rfl dX11_beginsAt_42 hf (fun v42 hf => ?_)
  refine r_iconst (v := 1) C dX11_beginsAt_45 ?_
  refine r_iadd C dX11_beginsAt_46 ?_
  refine r_putI (k := 35) C hw shM_0 ltM_0 cO11 rfl (by decide) tw5_179 rfl rfl rfl dX11_beginsAt_47 hf (fun S47 H locs hf hw => ?_)
  exact r_retV C hw dX11_beginsAt_50 hf
def f_X11_joins_93 (N : Nat) (x3 : Int) (x4 : Int) (S : S2) : Option (S2) := sI S 17 48 x3 x4 fun S100 => rV S100
def f_X11_joins_86 (k47 : Int → Int → Int → Int → S2 → Option (S2)) (N : Nat) (x3 : Int) (x4 : Int) (x5 : Int) (x6 : Int) (y0 : Int) (y1 : Int) (S : S2) : Option (S2) := sI S 17 48 y1 y0 fun S86 => k47 x3 x4 x5 (x6 + 1) S86
def f_X11_joins_47 (k93 : Int → Int → S2 → Option (S2)) : Nat → Int → Int → Int → Int → S2 → Option (S2)
  | 0, _, _, _, _, _ => none
  | N + 1, x3, x4, x5, x6, S => bI (f_X11_many N S) fun v50 S50 => cI x6 v50 (if v50 ≤ x6 then k93 x3 x4 S50 else aI S50 17 48 x6 fun v68 => cI v68 x5 (if v68 = x5 then (f_X11_joins_86 (f_X11_joins_47 k93 N) N) x3 x4 x5 x6 x4 x6 S50 else aI S50 17 48 x6 fun v85 => (f_X11_joins_86 (f_X11_joins_47 k93 N) N) x3 x4 x5 x6 v85 x6 S50))
def f_X11_joins (N : Nat) (S : S2) (a1 : Int) (a2 : Int) (a3 : Int) : Option (S2) := mnI a1 a2 fun v2 => mxI a1 a2 fun v9 => sI S 14 48 v9 a3 fun S21 => aI S21 8 231 a3 fun v33 => sI S21 15 48 v9 v33 fun S34 => sI S34 16 48 v9 v2 fun S43 => (f_X11_joins_47 (f_X11_joins_93 N) N) a3 v2 v9 0 S43
abbrev rmX11_joins : Room := { frames := 1, cells := 0, slots := 0, locals := 21 }
theorem hd_X11_joins : yX11_joins.cls ≠ "java/lang/invoke/MethodHandle" ∧ yX11_joins.cls ≠ "java/lang/invoke/VarHandle" ∧ (parseMethodDescriptor yX11_joins.desc).map (fun d => d.parameters.length) = some 3 := by decide +kernel
set_option maxRecDepth 100000 in
set_option maxHeartbeats 4000000 in
theorem w_X11_joins_93 {p : Program} (l : Launch) {e : Env} {s : State} {m : MethodId} {args : Array Value} {below : List Frame} {meth : Method} {c : Code} {X : XT} (hinj : XInj X nM) (hZ : ZOK (Zm X)) (C : CX p s m args meth c cX11_joins 7 RX11 none X nM (Zm X)) (out : S2) : ∀ (N : Nat), ∀ (x3 : Int) (x4 : Int) (S : S2) (H : Heap) (locs : List Loc) (ls : Array Slot), f_X11_joins_93 N x3 x4 S = some out → WH X shM nM s S H locs → lv_has ls 7 [(0, .ref (X.2.2 0)), (3, .int (iz x3)), (4, .int (iz x4))] → W p l e rmX11_joins s m args below meth c H locs 0 0 (QV X shM nM s args below out) (F0 m 93 ls []) := by
  intro N x3 x4 S H locs ls hf hw hl
  unfold f_X11_joins_93 at hf
  refine lv_aload_n C.1.1 C.1.2.1 dX11_joins_93 rfl (lv_at hl 0 rfl) ?_
  refine r_getR (k := 34) C hw shM_0 ltM_0 cO11 rfl (by decide) tw5_178 rfl dX11_joins_94 ?_
  refine lv_iload_n C.1.1 C.1.2.1 dX11_joins_97 rfl (lv_at hl 1 rfl) ?_
  refine lv_iload C.1.1 C.1.2.1 dX11_joins_98 (lv_at hl 2 rfl) ?_
  refine r_iast C hw shM_17 ltM_17 (Nat.le_of_ble_eq_true rfl) dX11_joins_100 hf (fun S100 H locs hf hw => ?_)
  exact r_retV C hw dX11_joins_101 hf
set_option maxRecDepth 100000 in
set_option maxHeartbeats 4000000 in
theorem w_X11_joins_86 {p : Program} (l : Launch) {e : Env} {s : State} {m : MethodId} {args : Array Value} {below : List Frame} {meth : Method} {c : Code} {X : XT} (hinj : XInj X nM) (hZ : ZOK (Zm X)) (C : CX p s m args meth c cX11_joins 7 RX11 none X nM (Zm X)) (out : S2) (k47 : Int → Int → Int → Int → S2 → Option (S2)) (hk47 : ∀ (x3 : Int) (x4 : Int) (x5 : Int) (x6 : Int) (S : S2) (H : Heap) (locs : List Loc) (ls : Array Slot), k47 x3 x4 x5 x6 S = some out → WH X shM nM s S H locs → lv_has ls 7 [(0, .ref (X.2.2 0)), (3, .int (iz x3)), (4, .int (iz x4)), (5, .int (iz x5)), (6, .int (iz x6))] → W p l e rmX11_joins s m args below meth c H locs 0 0 (QV X shM nM s args below out) (F0 m 47 ls [])) : ∀ (N : Nat), ∀ (x3 : Int) (x4 : Int) (x5 : Int) (x6 : Int) (y0 : Int) (y1 : Int) (S : S2) (H : Heap) (locs : List Loc) (ls : Array Slot), f_X11_joins_86 k47 N x3 x4 x5 x6 y0 y1 S = some out → WH X shM nM s S H locs → lv_has ls 7 [(0, .ref (X.2.2 0)), (3, .int (iz x3)), (4, .int (iz x4)), (5, .int (iz x5)), (6, .int (iz x6))] → W p l e rmX11_joins s m args below meth c H locs 0 0 (QV X shM nM s args below out) (F0 m 86 ls [.int (iz y0), .int (iz y1), .ref (X.2.2 17)]) := by
  intro N x3 x4 x5 x6 y0 y1 S H locs ls hf hw hl
  unfold f_X11_joins_86 at hf
  refine r_iast C hw shM_17 ltM_17 (Nat.le_of_ble_eq_true rfl) dX11_joins_86 hf (fun S86 H locs hf hw => ?_)
  refine lv_iinc (v := iz (x6 + 1)) (lv' := [(6, .int (iz (x6 + 1))), (0, .ref (X.2.2 0)), (3, .int (iz x3)), (4, .int (iz x4)), (5, .int (iz x5))]) C.1.1 C.1.2.1 dX11_joins_87 hl (k := 4) rfl (iz_add _ _) (by decide) rfl (fun ls hl => ?_)
  refine lv_goto (tgt := 47) C.1.1 C.1.2.1 dX11_joins_90 (by decide) ?_
  exact hk47 x3 x4 x5 (x6 + 1) S86 H locs ls hf hw (lv_sub hl [1, 2, 3, 4, 0] rfl)
set_option maxRecDepth 100000 in
set_option maxHeartbeats 4000000 in
theorem w_X11_joins_47 {p : Program} (l : Launch) {e : Env} {s : State} {m : MethodId} {args : Array Value} {below : List Frame} {meth : Method} {c : Code} {X : XT} (hinj : XInj X nM) (hZ : ZOK (Zm X)) (C : CX p s m args meth c cX11_joins 7 RX11 none X nM (Zm X)) (out : S2) (k93 : Int → Int → S2 → Option (S2)) (hk93 : ∀ (x3 : Int) (x4 : Int) (S : S2) (H : Heap) (locs : List Loc) (ls : Array Slot), k93 x3 x4 S = some out → WH X shM nM s S H locs → lv_has ls 7 [(0, .ref (X.2.2 0)), (3, .int (iz x3)), (4, .int (iz x4))] → W p l e rmX11_joins s m args below meth c H locs 0 0 (QV X shM nM s args below out) (F0 m 93 ls [])) : ∀ (N : Nat), ∀ (x3 : Int) (x4 : Int) (x5 : Int) (x6 : Int) (S : S2) (H : Heap) (locs : List Loc) (ls : Array Slot), f_X11_joins_47 k93 N x3 x4 x5 x6 S = some out → WH X shM nM s S H locs → lv_has ls 7 [(0, .ref (X.2.2 0)), (3, .int (iz x3)), (4, .int (iz x4)), (5, .int (iz x5)), (6, .int (iz x6))] → W p l e rmX11_joins s m args below meth c H locs 0 0 (QV X shM nM s args below out) (F0 m 47 ls []) := by
  intro N
  induction N with
  | zero => intro x3 x4 x5 x6 S H locs ls hf hw hl; cases hf
  | succ N ih =>
    intro x3 x4 x5 x6 S H locs ls hf hw hl
    rw [f_X11_joins_47.eq_2] at hf
    refine lv_iload C.1.1 C.1.2.1 dX11_joins_47 (lv_at hl 4 rfl) ?_
    refine lv_aload_n C.1.1 C.1.2.1 dX11_joins_49 rfl (lv_at hl 0 rfl) ?_
    refine r_callI (As := []) (rest := [.int (iz x6)]) (rm := rmX11_many) C hw shM_0 ltM_0 cO11 tw6_192 tw6_194 tp_60 tw1_12 tw6_195 hd_X11_many rfl ⟨⟨rfl, rfl⟩, Nat.le_of_ble_eq_true rfl, Nat.le_of_ble_eq_true rfl⟩ hl.1 rfl (Nat.le_of_ble_eq_true rfl) dX11_joins_50 hf (fun o ho => c_X11_many l X hinj hZ N S o ho) (fun v50 S50 H locs hf hw => ?_)
    refine r_icmp_ge C (tgt := 93) dX11_joins_53 (by decide) hf (fun hf => ?_) (fun hf => ?_)
    · exact hk93 x3 x4 S50 H locs ls hf hw (lv_sub hl [0, 1, 2] rfl)
    · refine lv_aload_n C.1.1 C.1.2.1 dX11_joins_56 rfl (lv_at hl 0 rfl) ?_
      refine r_getR (k := 34) C hw shM_0 ltM_0 cO11 rfl (by decide) tw5_178 rfl dX11_joins_57 ?_
      refine lv_iload C.1.1 C.1.2.1 dX11_joins_60 (lv_at hl 4 rfl) ?_
      refine lv_aload_n C.1.1 C.1.2.1 dX11_joins_62 rfl (lv_at hl 0 rfl) ?_
      refine r_getR (k := 34) C hw shM_0 ltM_0 cO11 rfl (by decide) tw5_178 rfl dX11_joins_63 ?_
      refine lv_iload C.1.1 C.1.2.1 dX11_joins_66 (lv_at hl 4 rfl) ?_
      refine r_iald C hw shM_17 ltM_17 (Nat.le_of_ble_eq_true rfl) dX11_joins_68 hf (fun v68 hf => ?_)
      refine lv_iload C.1.1 C.1.2.1 dX11_joins_69 (lv_at hl 3 rfl) ?_
      refine r_icmp_ne C (tgt := 79) dX11_joins_71 (by decide) hf (fun hf => ?_) (fun hf => ?_)
      · refine lv_aload_n C.1.1 C.1.2.1 dX11_joins_79 rfl (lv_at hl 0 rfl) ?_
        refine r_getR (k := 34) C hw shM_0 ltM_0 cO11 rfl (by decide) tw5_178 rfl dX11_joins_80 ?_
        refine lv_iload C.1.1 C.1.2.1 dX11_joins_83 (lv_at hl 4 rfl) ?_
        refine r_iald C hw shM_17 ltM_17 (Nat.le_of_ble_eq_true rfl) dX11_joins_85 hf (fun v85 hf => ?_)
        exact (w_X11_joins_86 l hinj hZ C out (f_X11_joins_47 k93 N) ih N) x3 x4 x5 x6 v85 x6 S50 H locs ls hf hw (lv_sub hl [0, 1, 2, 3, 4] rfl)
      · refine lv_iload C.1.1 C.1.2.1 dX11_joins_74 (lv_at hl 2 rfl) ?_
        refine lv_goto (tgt := 86) C.1.1 C.1.2.1 dX11_joins_76 (by decide) ?_
        exact (w_X11_joins_86 l hinj hZ C out (f_X11_joins_47 k93 N) ih N) x3 x4 x5 x6 x4 x6 S50 H locs ls hf hw (lv_sub hl [0, 1, 2, 3, 4] rfl)
set_option maxRecDepth 100000 in
set_option maxHeartbeats 4000000 in
theorem c_X11_joins (l : Launch) (X : XT) (hinj : XInj X nM) (hZ : ZOK (Zm X)) (N : Nat) (S : S2) (a1 : Int) (a2 : Int) (a3 : Int) (out : S2) (hf : f_X11_joins N S a1 a2 a3 = some out) : MV l X shM nM (Zm X) yX11_joins cX11_joins 7 none rmX11_joins [.ref (X.2.2 0), .int (iz a1), .int (iz a2), .int (iz a3)] S out := by
  refine met_V (own := RX11) (by decide) rfl hinj hZ (Nat.le_of_ble_eq_true rfl) (fun p e s m args below meth c C ls H locs hw hl => ?_)
  unfold f_X11_joins at hf
  have hl : lv_has ls 7 [(0, .ref (X.2.2 0)), (1, .int (iz a1)), (2, .int (iz a2)), (3, .int (iz a3))] := hl
  refine lv_iload_n C.1.1 C.1.2.1 dX11_joins_0 rfl (lv_at hl 1 rfl) ?_
  refine lv_iload_n C.1.1 C.1.2.1 dX11_joins_1 rfl (lv_at hl 2 rfl) ?_
  refine r_min C tw6_233 tw3_83 tw1_18 tw3_84 hl.1 (Nat.le_of_ble_eq_true rfl) (Nat.le_of_ble_eq_true rfl) dX11_joins_2 hf (fun v2 hf => ?_)
  refine lv_istore (lv' := [(4, .int (iz v2)), (0, .ref (X.2.2 0)), (1, .int (iz a1)), (2, .int (iz a2)), (3, .int (iz a3))]) C.1.1 C.1.2.1 dX11_joins_5 hl (by decide) rfl (fun ls hl => ?_)
  refine lv_iload_n C.1.1 C.1.2.1 dX11_joins_7 rfl (lv_at hl 2 rfl) ?_
  refine lv_iload_n C.1.1 C.1.2.1 dX11_joins_8 rfl (lv_at hl 3 rfl) ?_
  refine r_max C tw6_232 tw3_86 tw1_18 tw3_87 hl.1 (Nat.le_of_ble_eq_true rfl) (Nat.le_of_ble_eq_true rfl) dX11_joins_9 hf (fun v9 hf => ?_)
  refine lv_istore (lv' := [(5, .int (iz v9)), (4, .int (iz v2)), (0, .ref (X.2.2 0)), (1, .int (iz a1)), (2, .int (iz a2)), (3, .int (iz a3))]) C.1.1 C.1.2.1 dX11_joins_12 hl (by decide) rfl (fun ls hl => ?_)
  refine lv_aload_n C.1.1 C.1.2.1 dX11_joins_14 rfl (lv_at hl 2 rfl) ?_
  refine r_getR (k := 31) C hw shM_0 ltM_0 cO11 rfl (by decide) tw5_175 rfl dX11_joins_15 ?_
  refine lv_iload C.1.1 C.1.2.1 dX11_joins_18 (lv_at hl 0 rfl) ?_
  refine lv_iload_n C.1.1 C.1.2.1 dX11_joins_20 rfl (lv_at hl 5 rfl) ?_
  refine r_iast C hw shM_14 ltM_14 (Nat.le_of_ble_eq_true rfl) dX11_joins_21 hf (fun S21 H locs hf hw => ?_)
  refine lv_aload_n C.1.1 C.1.2.1 dX11_joins_22 rfl (lv_at hl 2 rfl) ?_
  refine r_getR (k := 32) C hw shM_0 ltM_0 cO11 rfl (by decide) tw5_176 rfl dX11_joins_23 ?_
  refine lv_iload C.1.1 C.1.2.1 dX11_joins_26 (lv_at hl 0 rfl) ?_
  refine lv_aload_n C.1.1 C.1.2.1 dX11_joins_28 rfl (lv_at hl 2 rfl) ?_
  refine r_getR (k := 22) C hw shM_0 ltM_0 cO11 rfl (by decide) tw5_166 rfl dX11_joins_29 ?_
  refine lv_iload_n C.1.1 C.1.2.1 dX11_joins_32 rfl (lv_at hl 5 rfl) ?_
  refine r_iald C hw shM_8 ltM_8 (Nat.le_of_ble_eq_true rfl) dX11_joins_33 hf (fun v33 hf => ?_)
  refine r_iast C hw shM_15 ltM_15 (Nat.le_of_ble_eq_true rfl) dX11_joins_34 hf (fun S34 H locs hf hw => ?_)
  refine lv_aload_n C.1.1 C.1.2.1 dX11_joins_35 rfl (lv_at hl 2 rfl) ?_
  refine r_getR (k := 33) C hw shM_0 ltM_0 cO11 rfl (by decide) tw5_177 rfl dX11_joins_36 ?_
  refine lv_iload C.1.1 C.1.2.1 dX11_joins_39 (lv_at hl 0 rfl) ?_
  refine lv_iload C.1.1 C.1.2.1 dX11_joins_41 (lv_at hl 1 rfl) ?_
  refine r_iast C hw shM_16 ltM_16 (Nat.le_of_ble_eq_true rfl) dX11_joins_43 hf (fun S43 H locs hf hw => ?_)
  refine r_iconst (v := 0) C dX11_joins_44 ?_
  refine lv_istore (lv' := [(6, .int (iz 0)), (5, .int (iz v9)), (4, .int (iz v2)), (0, .ref (X.2.2 0)), (1, .int (iz a1)), (2, .int (iz a2)), (3, .int (iz a3))]) C.1.1 C.1.2.1 dX11_joins_45 hl (by decide) rfl (fun ls hl => ?_)
  exact (w_X11_joins_47 l hinj hZ C out (f_X11_joins_93 N) (w_X11_joins_93 l hinj hZ C out N) N) a3 v2 v9 0 S43 H locs ls hf hw (lv_sub hl [3, 6, 2, 1, 0] rfl)
def f_X11_least_9 : Nat → Int → Int → S2 → Option (Int × S2)
  | 0, _, _, _ => none
  | N + 1, x1, x2, S => bI (f_X11_many N S) fun v11 S11 => cI x2 v11 (if v11 ≤ x2 then rI x1 S11 else aI S11 8 231 x2 fun v23 => mnI x1 v23 fun v24 => (f_X11_least_9 N) v24 (x2 + 1) S11)
def f_X11_least (N : Nat) (S : S2) : Option (Int × S2) := aI S 8 231 0 fun v5 => (f_X11_least_9 N) v5 1 S
abbrev rmX11_least : Room := { frames := 1, cells := 0, slots := 0, locals := 21 }
theorem hd_X11_least : yX11_least.cls ≠ "java/lang/invoke/MethodHandle" ∧ yX11_least.cls ≠ "java/lang/invoke/VarHandle" ∧ (parseMethodDescriptor yX11_least.desc).map (fun d => d.parameters.length) = some 0 := by decide +kernel
set_option maxRecDepth 100000 in
set_option maxHeartbeats 4000000 in
theorem w_X11_least_9 {p : Program} (l : Launch) {e : Env} {s : State} {m : MethodId} {args : Array Value} {below : List Frame} {meth : Method} {c : Code} {X : XT} (hinj : XInj X nM) (hZ : ZOK (Zm X)) (C : CX p s m args meth c cX11_least 3 RX11 (some .int) X nM (Zm X)) (out : Int × S2) : ∀ (N : Nat), ∀ (x1 : Int) (x2 : Int) (S : S2) (H : Heap) (locs : List Loc) (ls : Array Slot), f_X11_least_9 N x1 x2 S = some out → WH X shM nM s S H locs → lv_has ls 3 [(0, .ref (X.2.2 0)), (1, .int (iz x1)), (2, .int (iz x2))] → W p l e rmX11_least s m args below meth c H locs 0 0 (QI X shM nM s args below out) (F0 m 9 ls []) := by
  intro N
  induction N with
  | zero => intro x1 x2 S H locs ls hf hw hl; cases hf
  | succ N ih =>
    intro x1 x2 S H locs ls hf hw hl
    rw [f_X11_least_9.eq_2] at hf
    refine lv_iload_n C.1.1 C.1.2.1 dX11_least_9 rfl (lv_at hl 2 rfl) ?_
    refine lv_aload_n C.1.1 C.1.2.1 dX11_least_10 rfl (lv_at hl 0 rfl) ?_
    refine r_callI (As := []) (rest := [.int (iz x2)]) (rm := rmX11_many) C hw shM_0 ltM_0 cO11 tw6_192 tw6_194 tp_60 tw1_12 tw6_195 hd_X11_many rfl ⟨⟨rfl, rfl⟩, Nat.le_of_ble_eq_true rfl, Nat.le_of_ble_eq_true rfl⟩ hl.1 rfl (Nat.le_of_ble_eq_true rfl) dX11_least_11 hf (fun o ho => c_X11_many l X hinj hZ N S o ho) (fun v11 S11 H locs hf hw => ?_)
    refine r_icmp_ge C (tgt := 34) dX11_least_14 (by decide) hf (fun hf => ?_) (fun hf => ?_)
    · refine lv_iload_n C.1.1 C.1.2.1 dX11_least_34 rfl (lv_at hl 1 rfl) ?_
      exact r_retI C hw dX11_least_35 hf
    · refine lv_iload_n C.1.1 C.1.2.1 dX11_least_17 rfl (lv_at hl 1 rfl) ?_
      refine lv_aload_n C.1.1 C.1.2.1 dX11_least_18 rfl (lv_at hl 0 rfl) ?_
      refine r_getR (k := 22) C hw shM_0 ltM_0 cO11 rfl (by decide) tw5_166 rfl dX11_least_19 ?_
      refine lv_iload_n C.1.1 C.1.2.1 dX11_least_22 rfl (lv_at hl 2 rfl) ?_
      refine r_iald C hw shM_8 ltM_8 (Nat.le_of_ble_eq_true rfl) dX11_least_23 hf (fun v23 hf => ?_)
      refine r_min C tw6_233 tw3_83 tw1_18 tw3_84 hl.1 (Nat.le_of_ble_eq_true rfl) (Nat.le_of_ble_eq_true rfl) dX11_least_24 hf (fun v24 hf => ?_)
      refine lv_istore_n (lv' := [(1, .int (iz v24)), (0, .ref (X.2.2 0)), (2, .int (iz x2))]) C.1.1 C.1.2.1 dX11_least_27 rfl hl (by decide) rfl (fun ls hl => ?_)
      refine lv_iinc (v := iz (x2 + 1)) (lv' := [(2, .int (iz (x2 + 1))), (1, .int (iz v24)), (0, .ref (X.2.2 0))]) C.1.1 C.1.2.1 dX11_least_28 hl (k := 2) rfl (iz_add _ _) (by decide) rfl (fun ls hl => ?_)
      refine lv_goto (tgt := 9) C.1.1 C.1.2.1 dX11_least_31 (by decide) ?_
      exact ih v24 (x2 + 1) S11 H locs ls hf hw (lv_sub hl [2, 1, 0] rfl)
set_option maxRecDepth 100000 in
set_option maxHeartbeats 4000000 in
theorem c_X11_least (l : Launch) (X : XT) (hinj : XInj X nM) (hZ : ZOK (Zm X)) (N : Nat) (S : S2) (out : Int × S2) (hf : f_X11_least N S = some out) : MI l X shM nM (Zm X) yX11_least cX11_least 3 (some .int) rmX11_least [.ref (X.2.2 0)] S out := by
  refine met_I (own := RX11) (by decide) rfl hinj hZ (Nat.le_of_ble_eq_true rfl) (fun p e s m args below meth c C ls H locs hw hl => ?_)
  unfold f_X11_least at hf
  have hl : lv_has ls 3 [(0, .ref (X.2.2 0))] := hl
  refine lv_aload_n C.1.1 C.1.2.1 dX11_least_0 rfl (lv_at hl 0 rfl) ?_
  refine r_getR (k := 22) C hw shM_0 ltM_0 cO11 rfl (by decide) tw5_166 rfl dX11_least_1 ?_
  refine r_iconst (v := 0) C dX11_least_4 ?_
  refine r_iald C hw shM_8 ltM_8 (Nat.le_of_ble_eq_true rfl) dX11_least_5 hf (fun v5 hf => ?_)
  refine lv_istore_n (lv' := [(1, .int (iz v5)), (0, .ref (X.2.2 0))]) C.1.1 C.1.2.1 dX11_least_6 rfl hl (by decide) rfl (fun ls hl => ?_)
  refine r_iconst (v := 1) C dX11_least_7 ?_
  refine lv_istore_n (lv' := [(2, .int (iz 1)), (1, .int (iz v5)), (0, .ref (X.2.2 0))]) C.1.1 C.1.2.1 dX11_least_8 rfl hl (by decide) rfl (fun ls hl => ?_)
  exact (w_X11_least_9 l hinj hZ C out N) v5 1 S H locs ls hf hw (lv_sub hl [2, 1, 0] rfl)
def f_X11_lets_137 (N : Nat) (S : S2) : Option (S2) := bI (f_X11_least N S) fun v143 S143 => sI S143 15 48 0 v143 fun S146 => rV S146
def f_X11_lets_125 (k36 : Int → Int → S2 → Option (S2)) (N : Nat) (x1 : Int) (x2 : Int) (S : S2) : Option (S2) := bI (f_X11_nextBehind N S x1) fun v127 S127 => k36 v127 (x2 + 1) S127
def f_X11_lets_113 (k36 : Int → Int → S2 → Option (S2)) (N : Nat) (x1 : Int) (x2 : Int) (y0 : Int) (y1 : Int) (S : S2) : Option (S2) := sI S 17 48 y1 y0 fun S113 => (f_X11_lets_125 k36 N) x1 x2 S113
def f_X11_lets_97 (k36 : Int → Int → S2 → Option (S2)) (N : Nat) (x1 : Int) (x2 : Int) (x3 : Int) (x4 : Int) (S : S2) : Option (S2) := cI x3 (-1) (if x3 = (-1) then (f_X11_lets_113 k36 N) x1 x2 x4 x1 S else (f_X11_lets_113 k36 N) x1 x2 x3 x1 S)
def f_X11_lets_80 (k36 : Int → Int → S2 → Option (S2)) (N : Nat) (x1 : Int) (x2 : Int) (x3 : Int) (x4 : Int) (S : S2) : Option (S2) := cI x3 (-1) (if x3 = (-1) then (f_X11_lets_97 k36 N) x1 x2 x3 x4 S else cI x4 (-1) (if x4 = (-1) then (f_X11_lets_97 k36 N) x1 x2 x3 x4 S else cI x3 x4 (if x3 = x4 then (f_X11_lets_97 k36 N) x1 x2 x3 x4 S else bV (f_X11_joins N S x3 x4 x1) fun S122 => (f_X11_lets_125 k36 N) x1 x2 S122)))
def f_X11_lets_36 (k137 : S2 → Option (S2)) : Nat → Int → Int → S2 → Option (S2)
  | 0, _, _, _ => none
  | N + 1, x1, x2, S => bI (f_X11_many N S) fun v38 S38 => cI x2 v38 (if v38 ≤ x2 then k137 S38 else bI (f_X11_belongsAt N S38 (x1 - 1)) fun v48 S48 => bI (f_X11_belongsAt N S48 (x1 + 1)) fun v56 S56 => cI v48 (-1) (if v48 = (-1) then cI v56 (-1) (if v56 = (-1) then bV (f_X11_beginsAt N S56 x1) fun S74 => (f_X11_lets_125 (f_X11_lets_36 k137 N) N) x1 x2 S74 else (f_X11_lets_80 (f_X11_lets_36 k137 N) N) x1 x2 v48 v56 S56) else (f_X11_lets_80 (f_X11_lets_36 k137 N) N) x1 x2 v48 v56 S56))
def f_X11_lets_28 (N : Nat) (S : S2) : Option (S2) := bI (f_X11_nextBehind N S (-1)) fun v30 S30 => (f_X11_lets_36 (f_X11_lets_137 N) N) v30 0 S30
def f_X11_lets_7 (k28 : S2 → Option (S2)) : Nat → Int → S2 → Option (S2)
  | 0, _, _ => none
  | N + 1, x1, S => bI (f_X11_many N S) fun v9 S9 => cI x1 v9 (if v9 ≤ x1 then k28 S9 else sI S9 17 48 x1 (-1) fun S21 => (f_X11_lets_7 k28 N) (x1 + 1) S21)
def f_X11_lets (N : Nat) (S : S2) : Option (S2) := uI S 0 35 0 fun S2 => (f_X11_lets_7 (f_X11_lets_28 N) N) 0 S2
abbrev rmX11_lets : Room := { frames := 2, cells := 0, slots := 0, locals := 47 }
theorem hd_X11_lets : yX11_lets.cls ≠ "java/lang/invoke/MethodHandle" ∧ yX11_lets.cls ≠ "java/lang/invoke/VarHandle" ∧ (parseMethodDescriptor yX11_lets.desc).map (fun d => d.parameters.length) = some 0 := by decide +kernel
set_option maxRecDepth 100000 in
set_option maxHeartbeats 4000000 in
theorem w_X11_lets_137 {p : Program} (l : Launch) {e : Env} {s : State} {m : MethodId} {args : Array Value} {below : List Frame} {meth : Method} {c : Code} {X : XT} (hinj : XInj X nM) (hZ : ZOK (Zm X)) (C : CX p s m args meth c cX11_lets 5 RX11 none X nM (Zm X)) (out : S2) : ∀ (N : Nat), ∀ (S : S2) (H : Heap) (locs : List Loc) (ls : Array Slot), f_X11_lets_137 N S = some out → WH X shM nM s S H locs → lv_has ls 5 [(0, .ref (X.2.2 0))] → W p l e rmX11_lets s m args below meth c H locs 0 0 (QV X shM nM s args below out) (F0 m 137 ls []) := by
  intro N S H locs ls hf hw hl
  unfold f_X11_lets_137 at hf
  refine lv_aload_n C.1.1 C.1.2.1 dX11_lets_137 rfl (lv_at hl 0 rfl) ?_
  refine r_getR (k := 32) C hw shM_0 ltM_0 cO11 rfl (by decide) tw5_176 rfl dX11_lets_138 ?_
  refine r_iconst (v := 0) C dX11_lets_141 ?_
  refine lv_aload_n C.1.1 C.1.2.1 dX11_lets_142 rfl (lv_at hl 0 rfl) ?_
  refine r_callI (As := []) (rest := [.int (iz 0), .ref (X.2.2 15)]) (rm := rmX11_least) C hw shM_0 ltM_0 cO11 tw7_29 tw7_31 tp_77 tw1_12 tw7_32 hd_X11_least rfl ⟨⟨rfl, rfl⟩, Nat.le_of_ble_eq_true rfl, Nat.le_of_ble_eq_true rfl⟩ hl.1 rfl (Nat.le_of_ble_eq_true rfl) dX11_lets_143 hf (fun o ho => c_X11_least l X hinj hZ N S o ho) (fun v143 S143 H locs hf hw => ?_)
  refine r_iast C hw shM_15 ltM_15 (Nat.le_of_ble_eq_true rfl) dX11_lets_146 hf (fun S146 H locs hf hw => ?_)
  exact r_retV C hw dX11_lets_147 hf
set_option maxRecDepth 100000 in
set_option maxHeartbeats 4000000 in
theorem w_X11_lets_125 {p : Program} (l : Launch) {e : Env} {s : State} {m : MethodId} {args : Array Value} {below : List Frame} {meth : Method} {c : Code} {X : XT} (hinj : XInj X nM) (hZ : ZOK (Zm X)) (C : CX p s m args meth c cX11_lets 5 RX11 none X nM (Zm X)) (out : S2) (k36 : Int → Int → S2 → Option (S2)) (hk36 : ∀ (x1 : Int) (x2 : Int) (S : S2) (H : Heap) (locs : List Loc) (ls : Array Slot), k36 x1 x2 S = some out → WH X shM nM s S H locs → lv_has ls 5 [(0, .ref (X.2.2 0)), (1, .int (iz x1)), (2, .int (iz x2))] → W p l e rmX11_lets s m args below meth c H locs 0 0 (QV X shM nM s args below out) (F0 m 36 ls [])) : ∀ (N : Nat), ∀ (x1 : Int) (x2 : Int) (S : S2) (H : Heap) (locs : List Loc) (ls : Array Slot), f_X11_lets_125 k36 N x1 x2 S = some out → WH X shM nM s S H locs → lv_has ls 5 [(0, .ref (X.2.2 0)), (1, .int (iz x1)), (2, .int (iz x2))] → W p l e rmX11_lets s m args below meth c H locs 0 0 (QV X shM nM s args below out) (F0 m 125 ls []) := by
  intro N x1 x2 S H locs ls hf hw hl
  unfold f_X11_lets_125 at hf
  refine lv_aload_n C.1.1 C.1.2.1 dX11_lets_125 rfl (lv_at hl 0 rfl) ?_
  refine lv_iload_n C.1.1 C.1.2.1 dX11_lets_126 rfl (lv_at hl 1 rfl) ?_
  refine r_callI (As := [.int (iz x1)]) (rest := []) (rm := rmX11_nextBehind) C hw shM_0 ltM_0 cO11 tw7_9 tw7_11 tp_72 tw1_12 tw7_12 hd_X11_nextBehind rfl ⟨⟨rfl, rfl⟩, Nat.le_of_ble_eq_true rfl, Nat.le_of_ble_eq_true rfl⟩ hl.1 rfl (Nat.le_of_ble_eq_true rfl) dX11_lets_127 hf (fun o ho => c_X11_nextBehind l X hinj hZ N S x1 o ho) (fun v127 S127 H locs hf hw => ?_)
  refine lv_istore_n (lv' := [(1, .int (iz v127)), (0, .ref (X.2.2 0)), (2, .int (iz x2))]) C.1.1 C.1.2.1 dX11_lets_130 rfl hl (by decide) rfl (fun ls hl => ?_)
  refine lv_iinc (v := iz (x2 + 1)) (lv' := [(2, .int (iz (x2 + 1))), (1, .int (iz v127)), (0, .ref (X.2.2 0))]) C.1.1 C.1.2.1 dX11_lets_131 hl (k := 2) rfl (iz_add _ _) (by decide) rfl (fun ls hl => ?_)
  refine lv_goto (tgt := 36) C.1.1 C.1.2.1 dX11_lets_134 (by decide) ?_
  exact hk36 v127 (x2 + 1) S127 H locs ls hf hw (lv_sub hl [2, 1, 0] rfl)
set_option maxRecDepth 100000 in
set_option maxHeartbeats 4000000 in
theorem w_X11_lets_113 {p : Program} (l : Launch) {e : Env} {s : State} {m : MethodId} {args : Array Value} {below : List Frame} {meth : Method} {c : Code} {X : XT} (hinj : XInj X nM) (hZ : ZOK (Zm X)) (C : CX p s m args meth c cX11_lets 5 RX11 none X nM (Zm X)) (out : S2) (k36 : Int → Int → S2 → Option (S2)) (hk36 : ∀ (x1 : Int) (x2 : Int) (S : S2) (H : Heap) (locs : List Loc) (ls : Array Slot), k36 x1 x2 S = some out → WH X shM nM s S H locs → lv_has ls 5 [(0, .ref (X.2.2 0)), (1, .int (iz x1)), (2, .int (iz x2))] → W p l e rmX11_lets s m args below meth c H locs 0 0 (QV X shM nM s args below out) (F0 m 36 ls [])) : ∀ (N : Nat), ∀ (x1 : Int) (x2 : Int) (y0 : Int) (y1 : Int) (S : S2) (H : Heap) (locs : List Loc) (ls : Array Slot), f_X11_lets_113 k36 N x1 x2 y0 y1 S = some out → WH X shM nM s S H locs → lv_has ls 5 [(0, .ref (X.2.2 0)), (1, .int (iz x1)), (2, .int (iz x2))] → W p l e rmX11_lets s m args below meth c H locs 0 0 (QV X shM nM s args below out) (F0 m 113 ls [.int (iz y0), .int (iz y1), .ref (X.2.2 17)]) := by
  intro N x1 x2 y0 y1 S H locs ls hf hw hl
  unfold f_X11_lets_113 at hf
  refine r_iast C hw shM_17 ltM_17 (Nat.le_of_ble_eq_true rfl) dX11_lets_113 hf (fun S113 H locs hf hw => ?_)
  refine lv_goto (tgt := 125) C.1.1 C.1.2.1 dX11_lets_114 (by decide) ?_
  exact (w_X11_lets_125 l hinj hZ C out k36 hk36 N) x1 x2 S113 H locs ls hf hw (lv_sub hl [0, 1, 2] rfl)
set_option maxRecDepth 100000 in
set_option maxHeartbeats 4000000 in
theorem w_X11_lets_97 {p : Program} (l : Launch) {e : Env} {s : State} {m : MethodId} {args : Array Value} {below : List Frame} {meth : Method} {c : Code} {X : XT} (hinj : XInj X nM) (hZ : ZOK (Zm X)) (C : CX p s m args meth c cX11_lets 5 RX11 none X nM (Zm X)) (out : S2) (k36 : Int → Int → S2 → Option (S2)) (hk36 : ∀ (x1 : Int) (x2 : Int) (S : S2) (H : Heap) (locs : List Loc) (ls : Array Slot), k36 x1 x2 S = some out → WH X shM nM s S H locs → lv_has ls 5 [(0, .ref (X.2.2 0)), (1, .int (iz x1)), (2, .int (iz x2))] → W p l e rmX11_lets s m args below meth c H locs 0 0 (QV X shM nM s args below out) (F0 m 36 ls [])) : ∀ (N : Nat), ∀ (x1 : Int) (x2 : Int) (x3 : Int) (x4 : Int) (S : S2) (H : Heap) (locs : List Loc) (ls : Array Slot), f_X11_lets_97 k36 N x1 x2 x3 x4 S = some out → WH X shM nM s S H locs → lv_has ls 5 [(0, .ref (X.2.2 0)), (1, .int (iz x1)), (2, .int (iz x2)), (3, .int (iz x3)), (4, .int (iz x4))] → W p l e rmX11_lets s m args below meth c H locs 0 0 (QV X shM nM s args below out) (F0 m 97 ls []) := by
  intro N x1 x2 x3 x4 S H locs ls hf hw hl
  unfold f_X11_lets_97 at hf
  refine lv_aload_n C.1.1 C.1.2.1 dX11_lets_97 rfl (lv_at hl 0 rfl) ?_
  refine r_getR (k := 34) C hw shM_0 ltM_0 cO11 rfl (by decide) tw5_178 rfl dX11_lets_98 ?_
  refine lv_iload_n C.1.1 C.1.2.1 dX11_lets_101 rfl (lv_at hl 1 rfl) ?_
  refine lv_iload_n C.1.1 C.1.2.1 dX11_lets_102 rfl (lv_at hl 3 rfl) ?_
  refine r_iconst (v := (-1)) C dX11_lets_103 ?_
  refine r_icmp_ne C (tgt := 112) dX11_lets_104 (by decide) hf (fun hf => ?_) (fun hf => ?_)
  · refine lv_iload_n C.1.1 C.1.2.1 dX11_lets_112 rfl (lv_at hl 3 rfl) ?_
    exact (w_X11_lets_113 l hinj hZ C out k36 hk36 N) x1 x2 x3 x1 S H locs ls hf hw (lv_sub hl [0, 1, 2] rfl)
  · refine lv_iload C.1.1 C.1.2.1 dX11_lets_107 (lv_at hl 4 rfl) ?_
    refine lv_goto (tgt := 113) C.1.1 C.1.2.1 dX11_lets_109 (by decide) ?_
    exact (w_X11_lets_113 l hinj hZ C out k36 hk36 N) x1 x2 x4 x1 S H locs ls hf hw (lv_sub hl [0, 1, 2] rfl)
set_option maxRecDepth 100000 in
set_option maxHeartbeats 4000000 in
theorem w_X11_lets_80 {p : Program} (l : Launch) {e : Env} {s : State} {m : MethodId} {args : Array Value} {below : List Frame} {meth : Method} {c : Code} {X : XT} (hinj : XInj X nM) (hZ : ZOK (Zm X)) (C : CX p s m args meth c cX11_lets 5 RX11 none X nM (Zm X)) (out : S2) (k36 : Int → Int → S2 → Option (S2)) (hk36 : ∀ (x1 : Int) (x2 : Int) (S : S2) (H : Heap) (locs : List Loc) (ls : Array Slot), k36 x1 x2 S = some out → WH X shM nM s S H locs → lv_has ls 5 [(0, .ref (X.2.2 0)), (1, .int (iz x1)), (2, .int (iz x2))] → W p l e rmX11_lets s m args below meth c H locs 0 0 (QV X shM nM s args below out) (F0 m 36 ls [])) : ∀ (N : Nat), ∀ (x1 : Int) (x2 : Int) (x3 : Int) (x4 : Int) (S : S2) (H : Heap) (locs : List Loc) (ls : Array Slot), f_X11_lets_80 k36 N x1 x2 x3 x4 S = some out → WH X shM nM s S H locs → lv_has ls 5 [(0, .ref (X.2.2 0)), (1, .int (iz x1)), (2, .int (iz x2)), (3, .int (iz x3)), (4, .int (iz x4))] → W p l e rmX11_lets s m args below meth c H locs 0 0 (QV X shM nM s args below out) (F0 m 80 ls []) := by
  intro N x1 x2 x3 x4 S H locs ls hf hw hl
  unfold f_X11_lets_80 at hf
  refine lv_iload_n C.1.1 C.1.2.1 dX11_lets_80 rfl (lv_at hl 3 rfl) ?_
  refine r_iconst (v := (-1)) C dX11_lets_81 ?_
  refine r_icmp_eq C (tgt := 97) dX11_lets_82 (by decide) hf (fun hf => ?_) (fun hf => ?_)
  · exact (w_X11_lets_97 l hinj hZ C out k36 hk36 N) x1 x2 x3 x4 S H locs ls hf hw (lv_sub hl [0, 1, 2, 3, 4] rfl)
  · refine lv_iload C.1.1 C.1.2.1 dX11_lets_85 (lv_at hl 4 rfl) ?_
    refine r_iconst (v := (-1)) C dX11_lets_87 ?_
    refine r_icmp_eq C (tgt := 97) dX11_lets_88 (by decide) hf (fun hf => ?_) (fun hf => ?_)
    · exact (w_X11_lets_97 l hinj hZ C out k36 hk36 N) x1 x2 x3 x4 S H locs ls hf hw (lv_sub hl [0, 1, 2, 3, 4] rfl)
    · refine lv_iload_n C.1.1 C.1.2.1 dX11_lets_91 rfl (lv_at hl 3 rfl) ?_
      refine lv_iload C.1.1 C.1.2.1 dX11_lets_92 (lv_at hl 4 rfl) ?_
      refine r_icmp_ne C (tgt := 117) dX11_lets_94 (by decide) hf (fun hf => ?_) (fun hf => ?_)
      · refine lv_aload_n C.1.1 C.1.2.1 dX11_lets_117 rfl (lv_at hl 0 rfl) ?_
        refine lv_iload_n C.1.1 C.1.2.1 dX11_lets_118 rfl (lv_at hl 3 rfl) ?_
        refine lv_iload C.1.1 C.1.2.1 dX11_lets_119 (lv_at hl 4 rfl) ?_
        refine lv_iload_n C.1.1 C.1.2.1 dX11_lets_121 rfl (lv_at hl 1 rfl) ?_
        refine r_callV (As := [.int (iz x3), .int (iz x4), .int (iz x1)]) (rest := []) (rm := rmX11_joins) C hw shM_0 ltM_0 cO11 tw7_25 tw7_27 tp_76 tw1_12 tw7_28 hd_X11_joins rfl ⟨⟨rfl, rfl⟩, Nat.le_of_ble_eq_true rfl, Nat.le_of_ble_eq_true rfl⟩ hl.1 rfl (Nat.le_of_ble_eq_true rfl) dX11_lets_122 hf (fun o ho => c_X11_joins l X hinj hZ N S x3 x4 x1 o ho) (fun S122 H locs hf hw => ?_)
        exact (w_X11_lets_125 l hinj hZ C out k36 hk36 N) x1 x2 S122 H locs ls hf hw (lv_sub hl [0, 1, 2] rfl)
      · exact (w_X11_lets_97 l hinj hZ C out k36 hk36 N) x1 x2 x3 x4 S H locs ls hf hw (lv_sub hl [0, 1, 2, 3, 4] rfl)
set_option maxRecDepth 100000 in
set_option maxHeartbeats 4000000 in
theorem w_X11_lets_36 {p : Program} (l : Launch) {e : Env} {s : State} {m : MethodId} {args : Array Value} {below : List Frame} {meth : Method} {c : Code} {X : XT} (hinj : XInj X nM) (hZ : ZOK (Zm X)) (C : CX p s m args meth c cX11_lets 5 RX11 none X nM (Zm X)) (out : S2) (k137 : S2 → Option (S2)) (hk137 : ∀ (S : S2) (H : Heap) (locs : List Loc) (ls : Array Slot), k137 S = some out → WH X shM nM s S H locs → lv_has ls 5 [(0, .ref (X.2.2 0))] → W p l e rmX11_lets s m args below meth c H locs 0 0 (QV X shM nM s args below out) (F0 m 137 ls [])) : ∀ (N : Nat), ∀ (x1 : Int) (x2 : Int) (S : S2) (H : Heap) (locs : List Loc) (ls : Array Slot), f_X11_lets_36 k137 N x1 x2 S = some out → WH X shM nM s S H locs → lv_has ls 5 [(0, .ref (X.2.2 0)), (1, .int (iz x1)), (2, .int (iz x2))] → W p l e rmX11_lets s m args below meth c H locs 0 0 (QV X shM nM s args below out) (F0 m 36 ls []) := by
  intro N
  induction N with
  | zero => intro x1 x2 S H locs ls hf hw hl; cases hf
  | succ N ih =>
    intro x1 x2 S H locs ls hf hw hl
    rw [f_X11_lets_36.eq_2] at hf
    refine lv_iload_n C.1.1 C.1.2.1 dX11_lets_36 rfl (lv_at hl 2 rfl) ?_
    refine lv_aload_n C.1.1 C.1.2.1 dX11_lets_37 rfl (lv_at hl 0 rfl) ?_
    refine r_callI (As := []) (rest := [.int (iz x2)]) (rm := rmX11_many) C hw shM_0 ltM_0 cO11 tw6_192 tw6_194 tp_60 tw1_12 tw6_195 hd_X11_many rfl ⟨⟨rfl, rfl⟩, Nat.le_of_ble_eq_true rfl, Nat.le_of_ble_eq_true rfl⟩ hl.1 rfl (Nat.le_of_ble_eq_true rfl) dX11_lets_38 hf (fun o ho => c_X11_many l X hinj hZ N S o ho) (fun v38 S38 H locs hf hw => ?_)
    refine r_icmp_ge C (tgt := 137) dX11_lets_41 (by decide) hf (fun hf => ?_) (fun hf => ?_)
    · exact hk137 S38 H locs ls hf hw (lv_sub hl [0] rfl)
    · refine lv_aload_n C.1.1 C.1.2.1 dX11_lets_44 rfl (lv_at hl 0 rfl) ?_
      refine lv_iload_n C.1.1 C.1.2.1 dX11_lets_45 rfl (lv_at hl 1 rfl) ?_
      refine r_iconst (v := 1) C dX11_lets_46 ?_
      refine r_isub C dX11_lets_47 ?_
      refine r_callI (As := [.int (iz (x1 - 1))]) (rest := []) (rm := rmX11_belongsAt) C hw shM_0 ltM_0 cO11 tw7_17 tw7_19 tp_74 tw1_12 tw7_20 hd_X11_belongsAt rfl ⟨⟨rfl, rfl⟩, Nat.le_of_ble_eq_true rfl, Nat.le_of_ble_eq_true rfl⟩ hl.1 rfl (Nat.le_of_ble_eq_true rfl) dX11_lets_48 hf (fun o ho => c_X11_belongsAt l X hinj hZ N S38 (x1 - 1) o ho) (fun v48 S48 H locs hf hw => ?_)
      refine lv_istore_n (lv' := [(3, .int (iz v48)), (0, .ref (X.2.2 0)), (1, .int (iz x1)), (2, .int (iz x2))]) C.1.1 C.1.2.1 dX11_lets_51 rfl hl (by decide) rfl (fun ls hl => ?_)
      refine lv_aload_n C.1.1 C.1.2.1 dX11_lets_52 rfl (lv_at hl 1 rfl) ?_
      refine lv_iload_n C.1.1 C.1.2.1 dX11_lets_53 rfl (lv_at hl 2 rfl) ?_
      refine r_iconst (v := 1) C dX11_lets_54 ?_
      refine r_iadd C dX11_lets_55 ?_
      refine r_callI (As := [.int (iz (x1 + 1))]) (rest := []) (rm := rmX11_belongsAt) C hw shM_0 ltM_0 cO11 tw7_17 tw7_19 tp_74 tw1_12 tw7_20 hd_X11_belongsAt rfl ⟨⟨rfl, rfl⟩, Nat.le_of_ble_eq_true rfl, Nat.le_of_ble_eq_true rfl⟩ hl.1 rfl (Nat.le_of_ble_eq_true rfl) dX11_lets_56 hf (fun o ho => c_X11_belongsAt l X hinj hZ N S48 (x1 + 1) o ho) (fun v56 S56 H locs hf hw => ?_)
      refine lv_istore (lv' := [(4, .int (iz v56)), (3, .int (iz v48)), (0, .ref (X.2.2 0)), (1, .int (iz x1)), (2, .int (iz x2))]) C.1.1 C.1.2.1 dX11_lets_59 hl (by decide) rfl (fun ls hl => ?_)
      refine lv_iload_n C.1.1 C.1.2.1 dX11_lets_61 rfl (lv_at hl 1 rfl) ?_
      refine r_iconst (v := (-1)) C dX11_lets_62 ?_
      refine r_icmp_ne C (tgt := 80) dX11_lets_63 (by decide) hf (fun hf => ?_) (fun hf => ?_)
      · exact (w_X11_lets_80 l hinj hZ C out (f_X11_lets_36 k137 N) ih N) x1 x2 v48 v56 S56 H locs ls hf hw (lv_sub hl [2, 3, 4, 1, 0] rfl)
      · refine lv_iload C.1.1 C.1.2.1 dX11_lets_66 (lv_at hl 0 rfl) ?_
        refine r_iconst (v := (-1)) C dX11_lets_68 ?_
        refine r_icmp_ne C (tgt := 80) dX11_lets_69 (by decide) hf (fun hf => ?_) (fun hf => ?_)
        · exact (w_X11_lets_80 l hinj hZ C out (f_X11_lets_36 k137 N) ih N) x1 x2 v48 v56 S56 H locs ls hf hw (lv_sub hl [2, 3, 4, 1, 0] rfl)
        · refine lv_aload_n C.1.1 C.1.2.1 dX11_lets_72 rfl (lv_at hl 2 rfl) ?_
          refine lv_iload_n C.1.1 C.1.2.1 dX11_lets_73 rfl (lv_at hl 3 rfl) ?_
          refine r_callV (As := [.int (iz x1)]) (rest := []) (rm := rmX11_beginsAt) C hw shM_0 ltM_0 cO11 tw7_21 tw7_23 tp_75 tw1_12 tw7_24 hd_X11_beginsAt rfl ⟨⟨rfl, rfl⟩, Nat.le_of_ble_eq_true rfl, Nat.le_of_ble_eq_true rfl⟩ hl.1 rfl (Nat.le_of_ble_eq_true rfl) dX11_lets_74 hf (fun o ho => c_X11_beginsAt l X hinj hZ N S56 x1 o ho) (fun S74 H locs hf hw => ?_)
          refine lv_goto (tgt := 125) C.1.1 C.1.2.1 dX11_lets_77 (by decide) ?_
          exact (w_X11_lets_125 l hinj hZ C out (f_X11_lets_36 k137 N) ih N) x1 x2 S74 H locs ls hf hw (lv_sub hl [2, 3, 4] rfl)
set_option maxRecDepth 100000 in
set_option maxHeartbeats 4000000 in
theorem w_X11_lets_28 {p : Program} (l : Launch) {e : Env} {s : State} {m : MethodId} {args : Array Value} {below : List Frame} {meth : Method} {c : Code} {X : XT} (hinj : XInj X nM) (hZ : ZOK (Zm X)) (C : CX p s m args meth c cX11_lets 5 RX11 none X nM (Zm X)) (out : S2) : ∀ (N : Nat), ∀ (S : S2) (H : Heap) (locs : List Loc) (ls : Array Slot), f_X11_lets_28 N S = some out → WH X shM nM s S H locs → lv_has ls 5 [(0, .ref (X.2.2 0))] → W p l e rmX11_lets s m args below meth c H locs 0 0 (QV X shM nM s args below out) (F0 m 28 ls []) := by
  intro N S H locs ls hf hw hl
  unfold f_X11_lets_28 at hf
  refine lv_aload_n C.1.1 C.1.2.1 dX11_lets_28 rfl (lv_at hl 0 rfl) ?_
  refine r_iconst (v := (-1)) C dX11_lets_29 ?_
  refine r_callI (As := [.int (iz (-1))]) (rest := []) (rm := rmX11_nextBehind) C hw shM_0 ltM_0 cO11 tw7_9 tw7_11 tp_72 tw1_12 tw7_12 hd_X11_nextBehind rfl ⟨⟨rfl, rfl⟩, Nat.le_of_ble_eq_true rfl, Nat.le_of_ble_eq_true rfl⟩ hl.1 rfl (Nat.le_of_ble_eq_true rfl) dX11_lets_30 hf (fun o ho => c_X11_nextBehind l X hinj hZ N S (-1) o ho) (fun v30 S30 H locs hf hw => ?_)
  refine lv_istore_n (lv' := [(1, .int (iz v30)), (0, .ref (X.2.2 0))]) C.1.1 C.1.2.1 dX11_lets_33 rfl hl (by decide) rfl (fun ls hl => ?_)
  refine r_iconst (v := 0) C dX11_lets_34 ?_
  refine lv_istore_n (lv' := [(2, .int (iz 0)), (1, .int (iz v30)), (0, .ref (X.2.2 0))]) C.1.1 C.1.2.1 dX11_lets_35 rfl hl (by decide) rfl (fun ls hl => ?_)
  exact (w_X11_lets_36 l hinj hZ C out (f_X11_lets_137 N) (w_X11_lets_137 l hinj hZ C out N) N) v30 0 S30 H locs ls hf hw (lv_sub hl [2, 1, 0] rfl)
set_option maxRecDepth 100000 in
set_option maxHeartbeats 4000000 in
theorem w_X11_lets_7 {p : Program} (l : Launch) {e : Env} {s : State} {m : MethodId} {args : Array Value} {below : List Frame} {meth : Method} {c : Code} {X : XT} (hinj : XInj X nM) (hZ : ZOK (Zm X)) (C : CX p s m args meth c cX11_lets 5 RX11 none X nM (Zm X)) (out : S2) (k28 : S2 → Option (S2)) (hk28 : ∀ (S : S2) (H : Heap) (locs : List Loc) (ls : Array Slot), k28 S = some out → WH X shM nM s S H locs → lv_has ls 5 [(0, .ref (X.2.2 0))] → W p l e rmX11_lets s m args below meth c H locs 0 0 (QV X shM nM s args below out) (F0 m 28 ls [])) : ∀ (N : Nat), ∀ (x1 : Int) (S : S2) (H : Heap) (locs : List Loc) (ls : Array Slot), f_X11_lets_7 k28 N x1 S = some out → WH X shM nM s S H locs → lv_has ls 5 [(0, .ref (X.2.2 0)), (1, .int (iz x1))] → W p l e rmX11_lets s m args below meth c H locs 0 0 (QV X shM nM s args below out) (F0 m 7 ls []) := by
  intro N
  induction N with
  | zero => intro x1 S H locs ls hf hw hl; cases hf
  | succ N ih =>
    intro x1 S H locs ls hf hw hl
    rw [f_X11_lets_7.eq_2] at hf
    refine lv_iload_n C.1.1 C.1.2.1 dX11_lets_7 rfl (lv_at hl 1 rfl) ?_
    refine lv_aload_n C.1.1 C.1.2.1 dX11_lets_8 rfl (lv_at hl 0 rfl) ?_
    refine r_callI (As := []) (rest := [.int (iz x1)]) (rm := rmX11_many) C hw shM_0 ltM_0 cO11 tw6_192 tw6_194 tp_60 tw1_12 tw6_195 hd_X11_many rfl ⟨⟨rfl, rfl⟩, Nat.le_of_ble_eq_true rfl, Nat.le_of_ble_eq_true rfl⟩ hl.1 rfl (Nat.le_of_ble_eq_true rfl) dX11_lets_9 hf (fun o ho => c_X11_many l X hinj hZ N S o ho) (fun v9 S9 H locs hf hw => ?_)
    refine r_icmp_ge C (tgt := 28) dX11_lets_12 (by decide) hf (fun hf => ?_) (fun hf => ?_)
    · exact hk28 S9 H locs ls hf hw (lv_sub hl [0] rfl)
    · refine lv_aload_n C.1.1 C.1.2.1 dX11_lets_15 rfl (lv_at hl 0 rfl) ?_
      refine r_getR (k := 34) C hw shM_0 ltM_0 cO11 rfl (by decide) tw5_178 rfl dX11_lets_16 ?_
      refine lv_iload_n C.1.1 C.1.2.1 dX11_lets_19 rfl (lv_at hl 1 rfl) ?_
      refine r_iconst (v := (-1)) C dX11_lets_20 ?_
      refine r_iast C hw shM_17 ltM_17 (Nat.le_of_ble_eq_true rfl) dX11_lets_21 hf (fun S21 H locs hf hw => ?_)
      refine lv_iinc (v := iz (x1 + 1)) (lv' := [(1, .int (iz (x1 + 1))), (0, .ref (X.2.2 0))]) C.1.1 C.1.2.1 dX11_lets_22 hl (k := 1) rfl (iz_add _ _) (by decide) rfl (fun ls hl => ?_)
      refine lv_goto (tgt := 7) C.1.1 C.1.2.1 dX11_lets_25 (by decide) ?_
      exact ih (x1 + 1) S21 H locs ls hf hw (lv_sub hl [1, 0] rfl)
set_option maxRecDepth 100000 in
set_option maxHeartbeats 4000000 in
theorem c_X11_lets (l : Launch) (X : XT) (hinj : XInj X nM) (hZ : ZOK (Zm X)) (N : Nat) (S : S2) (out : S2) (hf : f_X11_lets N S = some out) : MV l X shM nM (Zm X) yX11_lets cX11_lets 5 none rmX11_lets [.ref (X.2.2 0)] S out := by
  refine met_V (own := RX11) (by decide) rfl hinj hZ (Nat.le_of_ble_eq_true rfl) (fun p e s m args below meth c C ls H locs hw hl => ?_)
  unfold f_X11_lets at hf
  have hl : lv_has ls 5 [(0, .ref (X.2.2 0))] := hl
  refine lv_aload_n C.1.1 C.1.2.1 dX11_lets_0 rfl (lv_at hl 0 rfl) ?_
  refine r_iconst (v := 0) C dX11_lets_1 ?_
  refine r_putI (k := 35) C hw shM_0 ltM_0 cO11 rfl (by decide) tw5_179 rfl rfl rfl dX11_lets_2 hf (fun S2 H locs hf hw => ?_)
  refine r_iconst (v := 0) C dX11_lets_5 ?_
  refine lv_istore_n (lv' := [(1, .int (iz 0)), (0, .ref (X.2.2 0))]) C.1.1 C.1.2.1 dX11_lets_6 rfl hl (by decide) rfl (fun ls hl => ?_)
  exact (w_X11_lets_7 l hinj hZ C out (f_X11_lets_28 N) (w_X11_lets_28 l hinj hZ C out N) N) 0 S2 H locs ls hf hw (lv_sub hl [1, 0] rfl)
def f_X11_lifeOf (N : Nat) (S : S2) (a1 : Int) : Option (Int × S2) := aI S 13 48 a1 fun v9 => aI S 8 231 v9 fun v10 => aI S 15 48 a1 fun v16 => rI (v10 - v16) S
abbrev rmX11_lifeOf : Room := { frames := 0, cells := 0, slots := 0, locals := 0 }
theorem hd_X11_lifeOf : yX11_lifeOf.cls ≠ "java/lang/invoke/MethodHandle" ∧ yX11_lifeOf.cls ≠ "java/lang/invoke/VarHandle" ∧ (parseMethodDescriptor yX11_lifeOf.desc).map (fun d => d.parameters.length) = some 1 := by decide +kernel
set_option maxRecDepth 100000 in
set_option maxHeartbeats 4000000 in
theorem c_X11_lifeOf (l : Launch) (X : XT) (hinj : XInj X nM) (hZ : ZOK (Zm X)) (N : Nat) (S : S2) (a1 : Int) (out : Int × S2) (hf : f_X11_lifeOf N S a1 = some out) : MI l X shM nM (Zm X) yX11_lifeOf cX11_lifeOf 2 (some .int) rmX11_lifeOf [.ref (X.2.2 0), .int (iz a1)] S out := by
  refine met_I (own := RX11) (by decide) rfl hinj hZ (Nat.le_of_ble_eq_true rfl) (fun p e s m args below meth c C ls H locs hw hl => ?_)
  unfold f_X11_lifeOf at hf
  have hl : lv_has ls 2 [(0, .ref (X.2.2 0)), (1, .int (iz a1))] := hl
  refine lv_aload_n C.1.1 C.1.2.1 dX11_lifeOf_0 rfl (lv_at hl 0 rfl) ?_
  refine r_getR (k := 22) C hw shM_0 ltM_0 cO11 rfl (by decide) tw5_166 rfl dX11_lifeOf_1 ?_
  refine lv_aload_n C.1.1 C.1.2.1 dX11_lifeOf_4 rfl (lv_at hl 0 rfl) ?_
  refine r_getR (k := 30) C hw shM_0 ltM_0 cO11 rfl (by decide) tw5_174 rfl dX11_lifeOf_5 ?_
  refine lv_iload_n C.1.1 C.1.2.1 dX11_lifeOf_8 rfl (lv_at hl 1 rfl) ?_
  refine r_iald C hw shM_13 ltM_13 (Nat.le_of_ble_eq_true rfl) dX11_lifeOf_9 hf (fun v9 hf => ?_)
  refine r_iald C hw shM_8 ltM_8 (Nat.le_of_ble_eq_true rfl) dX11_lifeOf_10 hf (fun v10 hf => ?_)
  refine lv_aload_n C.1.1 C.1.2.1 dX11_lifeOf_11 rfl (lv_at hl 0 rfl) ?_
  refine r_getR (k := 32) C hw shM_0 ltM_0 cO11 rfl (by decide) tw5_176 rfl dX11_lifeOf_12 ?_
  refine lv_iload_n C.1.1 C.1.2.1 dX11_lifeOf_15 rfl (lv_at hl 1 rfl) ?_
  refine r_iald C hw shM_15 ltM_15 (Nat.le_of_ble_eq_true rfl) dX11_lifeOf_16 hf (fun v16 hf => ?_)
  refine r_isub C dX11_lifeOf_17 ?_
  exact r_retI C hw dX11_lifeOf_18 hf
def f_X11_placeOf (N : Nat) (S : S2) (a1 : Int) : Option (Int × S2) := aI S 18 48 a1 fun v9 => aI S 13 48 v9 fun v10 => rI v10 S
abbrev rmX11_placeOf : Room := { frames := 0, cells := 0, slots := 0, locals := 0 }
theorem hd_X11_placeOf : yX11_placeOf.cls ≠ "java/lang/invoke/MethodHandle" ∧ yX11_placeOf.cls ≠ "java/lang/invoke/VarHandle" ∧ (parseMethodDescriptor yX11_placeOf.desc).map (fun d => d.parameters.length) = some 1 := by decide +kernel
set_option maxRecDepth 100000 in
set_option maxHeartbeats 4000000 in
theorem c_X11_placeOf (l : Launch) (X : XT) (hinj : XInj X nM) (hZ : ZOK (Zm X)) (N : Nat) (S : S2) (a1 : Int) (out : Int × S2) (hf : f_X11_placeOf N S a1 = some out) : MI l X shM nM (Zm X) yX11_placeOf cX11_placeOf 2 (some .int) rmX11_placeOf [.ref (X.2.2 0), .int (iz a1)] S out := by
  refine met_I (own := RX11) (by decide) rfl hinj hZ (Nat.le_of_ble_eq_true rfl) (fun p e s m args below meth c C ls H locs hw hl => ?_)
  unfold f_X11_placeOf at hf
  have hl : lv_has ls 2 [(0, .ref (X.2.2 0)), (1, .int (iz a1))] := hl
  refine lv_aload_n C.1.1 C.1.2.1 dX11_placeOf_0 rfl (lv_at hl 0 rfl) ?_
  refine r_getR (k := 30) C hw shM_0 ltM_0 cO11 rfl (by decide) tw5_174 rfl dX11_placeOf_1 ?_
  refine lv_aload_n C.1.1 C.1.2.1 dX11_placeOf_4 rfl (lv_at hl 0 rfl) ?_
  refine r_getR (k := 36) C hw shM_0 ltM_0 cO11 rfl (by decide) tw5_180 rfl dX11_placeOf_5 ?_
  refine lv_iload_n C.1.1 C.1.2.1 dX11_placeOf_8 rfl (lv_at hl 1 rfl) ?_
  refine r_iald C hw shM_18 ltM_18 (Nat.le_of_ble_eq_true rfl) dX11_placeOf_9 hf (fun v9 hf => ?_)
  refine r_iald C hw shM_13 ltM_13 (Nat.le_of_ble_eq_true rfl) dX11_placeOf_10 hf (fun v10 hf => ?_)
  exact r_retI C hw dX11_placeOf_11 hf
def f_X11_height (N : Nat) (S : S2) (a1 : Int) : Option (Int × S2) := bI (f_X11_placeOf N S a1) fun v6 S6 => aI S6 8 231 v6 fun v9 => rI v9 S6
abbrev rmX11_height : Room := { frames := 1, cells := 0, slots := 0, locals := 21 }
theorem hd_X11_height : yX11_height.cls ≠ "java/lang/invoke/MethodHandle" ∧ yX11_height.cls ≠ "java/lang/invoke/VarHandle" ∧ (parseMethodDescriptor yX11_height.desc).map (fun d => d.parameters.length) = some 1 := by decide +kernel
set_option maxRecDepth 100000 in
set_option maxHeartbeats 4000000 in
theorem c_X11_height (l : Launch) (X : XT) (hinj : XInj X nM) (hZ : ZOK (Zm X)) (N : Nat) (S : S2) (a1 : Int) (out : Int × S2) (hf : f_X11_height N S a1 = some out) : MI l X shM nM (Zm X) yX11_height cX11_height 2 (some .int) rmX11_height [.ref (X.2.2 0), .int (iz a1)] S out := by
  refine met_I (own := RX11) (by decide) rfl hinj hZ (Nat.le_of_ble_eq_true rfl) (fun p e s m args below meth c C ls H locs hw hl => ?_)
  unfold f_X11_height at hf
  have hl : lv_has ls 2 [(0, .ref (X.2.2 0)), (1, .int (iz a1))] := hl
  refine lv_aload_n C.1.1 C.1.2.1 dX11_height_0 rfl (lv_at hl 0 rfl) ?_
  refine r_getR (k := 22) C hw shM_0 ltM_0 cO11 rfl (by decide) tw5_166 rfl dX11_height_1 ?_
  refine lv_aload_n C.1.1 C.1.2.1 dX11_height_4 rfl (lv_at hl 0 rfl) ?_
  refine lv_iload_n C.1.1 C.1.2.1 dX11_height_5 rfl (lv_at hl 1 rfl) ?_
  refine r_callI (As := [.int (iz a1)]) (rest := [.ref (X.2.2 8)]) (rm := rmX11_placeOf) C hw shM_0 ltM_0 cO11 tw7_41 tw7_43 tp_80 tw1_12 tw7_44 hd_X11_placeOf rfl ⟨⟨rfl, rfl⟩, Nat.le_of_ble_eq_true rfl, Nat.le_of_ble_eq_true rfl⟩ hl.1 rfl (Nat.le_of_ble_eq_true rfl) dX11_height_6 hf (fun o ho => c_X11_placeOf l X hinj hZ N S a1 o ho) (fun v6 S6 H locs hf hw => ?_)
  refine r_iald C hw shM_8 ltM_8 (Nat.le_of_ble_eq_true rfl) dX11_height_9 hf (fun v9 hf => ?_)
  exact r_retI C hw dX11_height_10 hf
def f_X11_life (N : Nat) (S : S2) (a1 : Int) : Option (Int × S2) := aI S 18 48 a1 fun v6 => bI (f_X11_lifeOf N S v6) fun v7 S7 => rI v7 S7
abbrev rmX11_life : Room := { frames := 1, cells := 0, slots := 0, locals := 21 }
theorem hd_X11_life : yX11_life.cls ≠ "java/lang/invoke/MethodHandle" ∧ yX11_life.cls ≠ "java/lang/invoke/VarHandle" ∧ (parseMethodDescriptor yX11_life.desc).map (fun d => d.parameters.length) = some 1 := by decide +kernel
set_option maxRecDepth 100000 in
set_option maxHeartbeats 4000000 in
theorem c_X11_life (l : Launch) (X : XT) (hinj : XInj X nM) (hZ : ZOK (Zm X)) (N : Nat) (S : S2) (a1 : Int) (out : Int × S2) (hf : f_X11_life N S a1 = some out) : MI l X shM nM (Zm X) yX11_life cX11_life 2 (some .int) rmX11_life [.ref (X.2.2 0), .int (iz a1)] S out := by
  refine met_I (own := RX11) (by decide) rfl hinj hZ (Nat.le_of_ble_eq_true rfl) (fun p e s m args below meth c C ls H locs hw hl => ?_)
  unfold f_X11_life at hf
  have hl : lv_has ls 2 [(0, .ref (X.2.2 0)), (1, .int (iz a1))] := hl
  refine lv_aload_n C.1.1 C.1.2.1 dX11_life_0 rfl (lv_at hl 0 rfl) ?_
  refine lv_aload_n C.1.1 C.1.2.1 dX11_life_1 rfl (lv_at hl 0 rfl) ?_
  refine r_getR (k := 36) C hw shM_0 ltM_0 cO11 rfl (by decide) tw5_180 rfl dX11_life_2 ?_
  refine lv_iload_n C.1.1 C.1.2.1 dX11_life_5 rfl (lv_at hl 1 rfl) ?_
  refine r_iald C hw shM_18 ltM_18 (Nat.le_of_ble_eq_true rfl) dX11_life_6 hf (fun v6 hf => ?_)
  refine r_callI (As := [.int (iz v6)]) (rest := []) (rm := rmX11_lifeOf) C hw shM_0 ltM_0 cO11 tw7_33 tw7_35 tp_78 tw1_12 tw7_36 hd_X11_lifeOf rfl ⟨⟨rfl, rfl⟩, Nat.le_of_ble_eq_true rfl, Nat.le_of_ble_eq_true rfl⟩ hl.1 rfl (Nat.le_of_ble_eq_true rfl) dX11_life_7 hf (fun o ho => c_X11_lifeOf l X hinj hZ N S v6 o ho) (fun v7 S7 H locs hf hw => ?_)
  exact r_retI C hw dX11_life_10 hf
def f_X11_isKept (N : Nat) (S : S2) (a1 : Int) : Option (Int × S2) := gI S 0 38 fun v3 => bI (f_X11_in N S a1 0 (v3 - 1)) fun v8 S8 => rZ v8 S8
abbrev rmX11_isKept : Room := { frames := 1, cells := 0, slots := 0, locals := 22 }
theorem hd_X11_isKept : yX11_isKept.cls ≠ "java/lang/invoke/MethodHandle" ∧ yX11_isKept.cls ≠ "java/lang/invoke/VarHandle" ∧ (parseMethodDescriptor yX11_isKept.desc).map (fun d => d.parameters.length) = some 1 := by decide +kernel
set_option maxRecDepth 100000 in
set_option maxHeartbeats 4000000 in
theorem c_X11_isKept (l : Launch) (X : XT) (hinj : XInj X nM) (hZ : ZOK (Zm X)) (N : Nat) (S : S2) (a1 : Int) (out : Int × S2) (hf : f_X11_isKept N S a1 = some out) : MI l X shM nM (Zm X) yX11_isKept cX11_isKept 2 (some .boolean) rmX11_isKept [.ref (X.2.2 0), .int (iz a1)] S out := by
  refine met_I (own := RX11) (by decide) rfl hinj hZ (Nat.le_of_ble_eq_true rfl) (fun p e s m args below meth c C ls H locs hw hl => ?_)
  unfold f_X11_isKept at hf
  have hl : lv_has ls 2 [(0, .ref (X.2.2 0)), (1, .int (iz a1))] := hl
  refine lv_iload_n C.1.1 C.1.2.1 dX11_isKept_0 rfl (lv_at hl 1 rfl) ?_
  refine r_iconst (v := 0) C dX11_isKept_1 ?_
  refine lv_aload_n C.1.1 C.1.2.1 dX11_isKept_2 rfl (lv_at hl 0 rfl) ?_
  refine r_getI (k := 38) C hw shM_0 ltM_0 cO11 rfl (by decide) tw5_182 rfl dX11_isKept_3 hf (fun v3 hf => ?_)
  refine r_iconst (v := 1) C dX11_isKept_6 ?_
  refine r_isub C dX11_isKept_7 ?_
  refine r_scallI (As := [.int (iz a1), .int (iz 0), .int (iz (v3 - 1))]) (rest := []) (rm := rmX11_in) C hw tw6_77 tw6_78 tw1_12 tw6_79 hd_X11_in rfl ⟨⟨rfl, rfl⟩, Nat.le_of_ble_eq_true rfl, Nat.le_of_ble_eq_true rfl⟩ hl.1 rfl (Nat.le_of_ble_eq_true rfl) dX11_isKept_8 hf (fun o ho => c_X11_in l X hinj hZ N S a1 0 (v3 - 1) o ho) (fun v8 S8 H locs hf hw => ?_)
  exact r_retZ C hw dX11_isKept_11 hf
def f_X11_matches_222 (k28 : Int → Int → S2 → Option (S2)) (N : Nat) (x1 : Int) (x2 : Int) (S : S2) : Option (S2) := k28 x1 (x2 + 1) S
def f_X11_matches_190 (k28 : Int → Int → S2 → Option (S2)) (N : Nat) (x1 : Int) (x2 : Int) (S : S2) : Option (S2) := aI S 20 48 x2 fun v195 => cI v195 (-1) (if v195 = (-1) then (f_X11_matches_222 k28 N) x1 x2 S else aI S 20 48 x2 fun v209 => sI S 21 8 v209 x2 fun S211 => gI S211 0 41 fun v214 => uI S211 0 41 (v214 + 1) fun S219 => (f_X11_matches_222 k28 N) x1 x2 S219)
def f_X11_matches_183 (k45 : Int → Int → Int → S2 → Option (S2)) (N : Nat) (x1 : Int) (x2 : Int) (x3 : Int) (y0 : Int) (y1 : Int) (S : S2) : Option (S2) := sI S 20 48 y1 y0 fun S183 => k45 x1 x2 (x3 + 1) S183
def f_X11_matches_177 (k45 : Int → Int → Int → S2 → Option (S2)) (N : Nat) (x1 : Int) (x2 : Int) (x3 : Int) (y0 : Int) (S : S2) : Option (S2) := aI S 20 48 x2 fun v182 => (f_X11_matches_183 k45 N) x1 x2 x3 v182 y0 S
def f_X11_matches_156 (k45 : Int → Int → Int → S2 → Option (S2)) (N : Nat) (x1 : Int) (x2 : Int) (x3 : Int) (x4 : Int) (y0 : Int) (S : S2) : Option (S2) := cI x4 0 (if x4 = 0 then (f_X11_matches_177 k45 N) x1 x2 x3 x2 S else cI y0 0 (if y0 = 0 then (f_X11_matches_177 k45 N) x1 x2 x3 x2 S else (f_X11_matches_183 k45 N) x1 x2 x3 x3 x2 S))
def f_X11_matches_151 (k45 : Int → Int → Int → S2 → Option (S2)) (N : Nat) (x1 : Int) (x2 : Int) (x3 : Int) (x4 : Int) (S : S2) : Option (S2) := (f_X11_matches_156 k45 N) x1 x2 x3 x4 1 S
def f_X11_matches_99 (k45 : Int → Int → Int → S2 → Option (S2)) (N : Nat) (x1 : Int) (x2 : Int) (x3 : Int) (y0 : Int) (S : S2) : Option (S2) := aI S 20 48 x2 fun v106 => cI v106 (-1) (if v106 = (-1) then (f_X11_matches_151 k45 N) x1 x2 x3 y0 S else aI S 10 8 x3 fun v116 => bI (f_X11_placeOf N S x2) fun v119 S119 => bI (f_X11_apart N S119 v116 (v119 + x1)) fun v124 S124 => aI S124 20 48 x2 fun v136 => aI S124 10 8 v136 fun v137 => bI (f_X11_placeOf N S124 x2) fun v140 S140 => bI (f_X11_apart N S140 v137 (v140 + x1)) fun v145 S145 => cI v124 v145 (if v145 ≤ v124 then (f_X11_matches_156 k45 N) x1 x2 x3 y0 0 S145 else (f_X11_matches_151 k45 N) x1 x2 x3 y0 S145))
def f_X11_matches_98 (k45 : Int → Int → Int → S2 → Option (S2)) (N : Nat) (x1 : Int) (x2 : Int) (x3 : Int) (S : S2) : Option (S2) := (f_X11_matches_99 k45 N) x1 x2 x3 0 S
def f_X11_matches_45 (k190 : Int → Int → S2 → Option (S2)) : Nat → Int → Int → Int → S2 → Option (S2)
  | 0, _, _, _, _ => none
  | N + 1, x1, x2, x3, S => gI S 0 27 fun v47 => cI x3 v47 (if v47 ≤ x3 then k190 x1 x2 S else gI S 0 38 fun v55 => cI x2 v55 (if v55 ≤ x2 then k190 x1 x2 S else aI S 21 8 x3 fun v66 => cI v66 (-1) (if v66 = (-1) then aI S 10 8 x3 fun v76 => bI (f_X11_placeOf N S x2) fun v79 S79 => bI (f_X11_apart N S79 v76 (v79 + x1)) fun v84 S84 => gI S84 0 28 fun v88 => cI v84 v88 (if v88 < v84 then (f_X11_matches_98 (f_X11_matches_45 k190 N) N) x1 x2 x3 S84 else (f_X11_matches_99 (f_X11_matches_45 k190 N) N) x1 x2 x3 1 S84) else (f_X11_matches_98 (f_X11_matches_45 k190 N) N) x1 x2 x3 S)))
def f_X11_matches_28 : Nat → Int → Int → S2 → Option (S2)
  | 0, _, _, _ => none
  | N + 1, x1, x2, S => gI S 0 35 fun v30 => cI x2 v30 (if v30 ≤ x2 then rV S else sI S 20 48 x2 (-1) fun S42 => (f_X11_matches_45 (f_X11_matches_190 (f_X11_matches_28 N) N) N) x1 x2 0 S42)
def f_X11_matches_26 (N : Nat) (x1 : Int) (S : S2) : Option (S2) := (f_X11_matches_28 N) x1 0 S
def f_X11_matches_7 (k26 : Int → S2 → Option (S2)) : Nat → Int → Int → S2 → Option (S2)
  | 0, _, _, _ => none
  | N + 1, x1, x2, S => cI x2 8 (if 8 ≤ x2 then k26 x1 S else sI S 21 8 x2 (-1) fun S19 => (f_X11_matches_7 k26 N) x1 (x2 + 1) S19)
def f_X11_matches (N : Nat) (S : S2) (a1 : Int) : Option (S2) := uI S 0 41 0 fun S2 => (f_X11_matches_7 (f_X11_matches_26 N) N) a1 0 S2
abbrev rmX11_matches : Room := { frames := 1, cells := 0, slots := 0, locals := 21 }
theorem hd_X11_matches : yX11_matches.cls ≠ "java/lang/invoke/MethodHandle" ∧ yX11_matches.cls ≠ "java/lang/invoke/VarHandle" ∧ (parseMethodDescriptor yX11_matches.desc).map (fun d => d.parameters.length) = some 1 := by decide +kernel
set_option maxRecDepth 100000 in
set_option maxHeartbeats 4000000 in
theorem w_X11_matches_222 {p : Program} (l : Launch) {e : Env} {s : State} {m : MethodId} {args : Array Value} {below : List Frame} {meth : Method} {c : Code} {X : XT} (hinj : XInj X nM) (hZ : ZOK (Zm X)) (C : CX p s m args meth c cX11_matches 6 RX11 none X nM (Zm X)) (out : S2) (k28 : Int → Int → S2 → Option (S2)) (hk28 : ∀ (x1 : Int) (x2 : Int) (S : S2) (H : Heap) (locs : List Loc) (ls : Array Slot), k28 x1 x2 S = some out → WH X shM nM s S H locs → lv_has ls 6 [(0, .ref (X.2.2 0)), (1, .int (iz x1)), (2, .int (iz x2))] → W p l e rmX11_matches s m args below meth c H locs 0 0 (QV X shM nM s args below out) (F0 m 28 ls [])) : ∀ (N : Nat), ∀ (x1 : Int) (x2 : Int) (S : S2) (H : Heap) (locs : List Loc) (ls : Array Slot), f_X11_matches_222 k28 N x1 x2 S = some out → WH X shM nM s S H locs → lv_has ls 6 [(0, .ref (X.2.2 0)), (1, .int (iz x1)), (2, .int (iz x2))] → W p l e rmX11_matches s m args below meth c H locs 0 0 (QV X shM nM s args below out) (F0 m 222 ls []) := by
  intro N x1 x2 S H locs ls hf hw hl
  unfold f_X11_matches_222 at hf
  refine lv_iinc (v := iz (x2 + 1)) (lv' := [(2, .int (iz (x2 + 1))), (0, .ref (X.2.2 0)), (1, .int (iz x1))]) C.1.1 C.1.2.1 dX11_matches_222 hl (k := 2) rfl (iz_add _ _) (by decide) rfl (fun ls hl => ?_)
  refine lv_goto (tgt := 28) C.1.1 C.1.2.1 dX11_matches_225 (by decide) ?_
  exact hk28 x1 (x2 + 1) S H locs ls hf hw (lv_sub hl [1, 2, 0] rfl)
set_option maxRecDepth 100000 in
set_option maxHeartbeats 4000000 in
theorem w_X11_matches_190 {p : Program} (l : Launch) {e : Env} {s : State} {m : MethodId} {args : Array Value} {below : List Frame} {meth : Method} {c : Code} {X : XT} (hinj : XInj X nM) (hZ : ZOK (Zm X)) (C : CX p s m args meth c cX11_matches 6 RX11 none X nM (Zm X)) (out : S2) (k28 : Int → Int → S2 → Option (S2)) (hk28 : ∀ (x1 : Int) (x2 : Int) (S : S2) (H : Heap) (locs : List Loc) (ls : Array Slot), k28 x1 x2 S = some out → WH X shM nM s S H locs → lv_has ls 6 [(0, .ref (X.2.2 0)), (1, .int (iz x1)), (2, .int (iz x2))] → W p l e rmX11_matches s m args below meth c H locs 0 0 (QV X shM nM s args below out) (F0 m 28 ls [])) : ∀ (N : Nat), ∀ (x1 : Int) (x2 : Int) (S : S2) (H : Heap) (locs : List Loc) (ls : Array Slot), f_X11_matches_190 k28 N x1 x2 S = some out → WH X shM nM s S H locs → lv_has ls 6 [(0, .ref (X.2.2 0)), (1, .int (iz x1)), (2, .int (iz x2))] → W p l e rmX11_matches s m args below meth c H locs 0 0 (QV X shM nM s args below out) (F0 m 190 ls []) := by
  intro N x1 x2 S H locs ls hf hw hl
  unfold f_X11_matches_190 at hf
  refine lv_aload_n C.1.1 C.1.2.1 dX11_matches_190 rfl (lv_at hl 0 rfl) ?_
  refine r_getR (k := 39) C hw shM_0 ltM_0 cO11 rfl (by decide) tw5_183 rfl dX11_matches_191 ?_
  refine lv_iload_n C.1.1 C.1.2.1 dX11_matches_194 rfl (lv_at hl 2 rfl) ?_
  refine r_iald C hw shM_20 ltM_20 (Nat.le_of_ble_eq_true rfl) dX11_matches_195 hf (fun v195 hf => ?_)
  refine r_iconst (v := (-1)) C dX11_matches_196 ?_
  refine r_icmp_eq C (tgt := 222) dX11_matches_197 (by decide) hf (fun hf => ?_) (fun hf => ?_)
  · exact (w_X11_matches_222 l hinj hZ C out k28 hk28 N) x1 x2 S H locs ls hf hw (lv_sub hl [0, 1, 2] rfl)
  · refine lv_aload_n C.1.1 C.1.2.1 dX11_matches_200 rfl (lv_at hl 0 rfl) ?_
    refine r_getR (k := 40) C hw shM_0 ltM_0 cO11 rfl (by decide) tw5_184 rfl dX11_matches_201 ?_
    refine lv_aload_n C.1.1 C.1.2.1 dX11_matches_204 rfl (lv_at hl 0 rfl) ?_
    refine r_getR (k := 39) C hw shM_0 ltM_0 cO11 rfl (by decide) tw5_183 rfl dX11_matches_205 ?_
    refine lv_iload_n C.1.1 C.1.2.1 dX11_matches_208 rfl (lv_at hl 2 rfl) ?_
    refine r_iald C hw shM_20 ltM_20 (Nat.le_of_ble_eq_true rfl) dX11_matches_209 hf (fun v209 hf => ?_)
    refine lv_iload_n C.1.1 C.1.2.1 dX11_matches_210 rfl (lv_at hl 2 rfl) ?_
    refine r_iast C hw shM_21 ltM_21 (Nat.le_of_ble_eq_true rfl) dX11_matches_211 hf (fun S211 H locs hf hw => ?_)
    refine lv_aload_n C.1.1 C.1.2.1 dX11_matches_212 rfl (lv_at hl 0 rfl) ?_
    refine lv_dup C.1.1 C.1.2.1 dX11_matches_213 rfl ?_
    refine r_getI (k := 41) C hw shM_0 ltM_0 cO11 rfl (by decide) tw5_185 rfl dX11_matches_214 hf (fun v214 hf => ?_)
    refine r_iconst (v := 1) C dX11_matches_217 ?_
    refine r_iadd C dX11_matches_218 ?_
    refine r_putI (k := 41) C hw shM_0 ltM_0 cO11 rfl (by decide) tw5_185 rfl rfl rfl dX11_matches_219 hf (fun S219 H locs hf hw => ?_)
    exact (w_X11_matches_222 l hinj hZ C out k28 hk28 N) x1 x2 S219 H locs ls hf hw (lv_sub hl [0, 1, 2] rfl)
set_option maxRecDepth 100000 in
set_option maxHeartbeats 4000000 in
theorem w_X11_matches_183 {p : Program} (l : Launch) {e : Env} {s : State} {m : MethodId} {args : Array Value} {below : List Frame} {meth : Method} {c : Code} {X : XT} (hinj : XInj X nM) (hZ : ZOK (Zm X)) (C : CX p s m args meth c cX11_matches 6 RX11 none X nM (Zm X)) (out : S2) (k45 : Int → Int → Int → S2 → Option (S2)) (hk45 : ∀ (x1 : Int) (x2 : Int) (x3 : Int) (S : S2) (H : Heap) (locs : List Loc) (ls : Array Slot), k45 x1 x2 x3 S = some out → WH X shM nM s S H locs → lv_has ls 6 [(0, .ref (X.2.2 0)), (1, .int (iz x1)), (2, .int (iz x2)), (3, .int (iz x3))] → W p l e rmX11_matches s m args below meth c H locs 0 0 (QV X shM nM s args below out) (F0 m 45 ls [])) : ∀ (N : Nat), ∀ (x1 : Int) (x2 : Int) (x3 : Int) (y0 : Int) (y1 : Int) (S : S2) (H : Heap) (locs : List Loc) (ls : Array Slot), f_X11_matches_183 k45 N x1 x2 x3 y0 y1 S = some out → WH X shM nM s S H locs → lv_has ls 6 [(0, .ref (X.2.2 0)), (1, .int (iz x1)), (2, .int (iz x2)), (3, .int (iz x3))] → W p l e rmX11_matches s m args below meth c H locs 0 0 (QV X shM nM s args below out) (F0 m 183 ls [.int (iz y0), .int (iz y1), .ref (X.2.2 20)]) := by
  intro N x1 x2 x3 y0 y1 S H locs ls hf hw hl
  unfold f_X11_matches_183 at hf
  refine r_iast C hw shM_20 ltM_20 (Nat.le_of_ble_eq_true rfl) dX11_matches_183 hf (fun S183 H locs hf hw => ?_)
  refine lv_iinc (v := iz (x3 + 1)) (lv' := [(3, .int (iz (x3 + 1))), (0, .ref (X.2.2 0)), (1, .int (iz x1)), (2, .int (iz x2))]) C.1.1 C.1.2.1 dX11_matches_184 hl (k := 3) rfl (iz_add _ _) (by decide) rfl (fun ls hl => ?_)
  refine lv_goto (tgt := 45) C.1.1 C.1.2.1 dX11_matches_187 (by decide) ?_
  exact hk45 x1 x2 (x3 + 1) S183 H locs ls hf hw (lv_sub hl [1, 2, 3, 0] rfl)
set_option maxRecDepth 100000 in
set_option maxHeartbeats 4000000 in
theorem w_X11_matches_177 {p : Program} (l : Launch) {e : Env} {s : State} {m : MethodId} {args : Array Value} {below : List Frame} {meth : Method} {c : Code} {X : XT} (hinj : XInj X nM) (hZ : ZOK (Zm X)) (C : CX p s m args meth c cX11_matches 6 RX11 none X nM (Zm X)) (out : S2) (k45 : Int → Int → Int → S2 → Option (S2)) (hk45 : ∀ (x1 : Int) (x2 : Int) (x3 : Int) (S : S2) (H : Heap) (locs : List Loc) (ls : Array Slot), k45 x1 x2 x3 S = some out → WH X shM nM s S H locs → lv_has ls 6 [(0, .ref (X.2.2 0)), (1, .int (iz x1)), (2, .int (iz x2)), (3, .int (iz x3))] → W p l e rmX11_matches s m args below meth c H locs 0 0 (QV X shM nM s args below out) (F0 m 45 ls [])) : ∀ (N : Nat), ∀ (x1 : Int) (x2 : Int) (x3 : Int) (y0 : Int) (S : S2) (H : Heap) (locs : List Loc) (ls : Array Slot), f_X11_matches_177 k45 N x1 x2 x3 y0 S = some out → WH X shM nM s S H locs → lv_has ls 6 [(0, .ref (X.2.2 0)), (1, .int (iz x1)), (2, .int (iz x2)), (3, .int (iz x3))] → W p l e rmX11_matches s m args below meth c H locs 0 0 (QV X shM nM s args below out) (F0 m 177 ls [.int (iz y0), .ref (X.2.2 20)]) := by
  intro N x1 x2 x3 y0 S H locs ls hf hw hl
  unfold f_X11_matches_177 at hf
  refine lv_aload_n C.1.1 C.1.2.1 dX11_matches_177 rfl (lv_at hl 0 rfl) ?_
  refine r_getR (k := 39) C hw shM_0 ltM_0 cO11 rfl (by decide) tw5_183 rfl dX11_matches_178 ?_
  refine lv_iload_n C.1.1 C.1.2.1 dX11_matches_181 rfl (lv_at hl 2 rfl) ?_
  refine r_iald C hw shM_20 ltM_20 (Nat.le_of_ble_eq_true rfl) dX11_matches_182 hf (fun v182 hf => ?_)
  exact (w_X11_matches_183 l hinj hZ C out k45 hk45 N) x1 x2 x3 v182 y0 S H locs ls hf hw (lv_sub hl [0, 1, 2, 3] rfl)
set_option maxRecDepth 100000 in
set_option maxHeartbeats 4000000 in
theorem w_X11_matches_156 {p : Program} (l : Launch) {e : Env} {s : State} {m : MethodId} {args : Array Value} {below : List Frame} {meth : Method} {c : Code} {X : XT} (hinj : XInj X nM) (hZ : ZOK (Zm X)) (C : CX p s m args meth c cX11_matches 6 RX11 none X nM (Zm X)) (out : S2) (k45 : Int → Int → Int → S2 → Option (S2)) (hk45 : ∀ (x1 : Int) (x2 : Int) (x3 : Int) (S : S2) (H : Heap) (locs : List Loc) (ls : Array Slot), k45 x1 x2 x3 S = some out → WH X shM nM s S H locs → lv_has ls 6 [(0, .ref (X.2.2 0)), (1, .int (iz x1)), (2, .int (iz x2)), (3, .int (iz x3))] → W p l e rmX11_matches s m args below meth c H locs 0 0 (QV X shM nM s args below out) (F0 m 45 ls [])) : ∀ (N : Nat), ∀ (x1 : Int) (x2 : Int) (x3 : Int) (x4 : Int) (y0 : Int) (S : S2) (H : Heap) (locs : List Loc) (ls : Array Slot), f_X11_matches_156 k45 N x1 x2 x3 x4 y0 S = some out → WH X shM nM s S H locs → lv_has ls 6 [(0, .ref (X.2.2 0)), (1, .int (iz x1)), (2, .int (iz x2)), (3, .int (iz x3)), (4, .int (iz x4))] → W p l e rmX11_matches s m args below meth c H locs 0 0 (QV X shM nM s args below out) (F0 m 156 ls [.int (iz y0)]) := by
  intro N x1 x2 x3 x4 y0 S H locs ls hf hw hl
  unfold f_X11_matches_156 at hf
  refine lv_istore (lv' := [(5, .int (iz y0)), (0, .ref (X.2.2 0)), (1, .int (iz x1)), (2, .int (iz x2)), (3, .int (iz x3)), (4, .int (iz x4))]) C.1.1 C.1.2.1 dX11_matches_156 hl (by decide) rfl (fun ls hl => ?_)
  refine lv_aload_n C.1.1 C.1.2.1 dX11_matches_158 rfl (lv_at hl 1 rfl) ?_
  refine r_getR (k := 39) C hw shM_0 ltM_0 cO11 rfl (by decide) tw5_183 rfl dX11_matches_159 ?_
  refine lv_iload_n C.1.1 C.1.2.1 dX11_matches_162 rfl (lv_at hl 3 rfl) ?_
  refine lv_iload C.1.1 C.1.2.1 dX11_matches_163 (lv_at hl 5 rfl) ?_
  refine r_if_eq C (tgt := 177) dX11_matches_165 (by decide) hf (fun hf => ?_) (fun hf => ?_)
  · exact (w_X11_matches_177 l hinj hZ C out k45 hk45 N) x1 x2 x3 x2 S H locs ls hf hw (lv_sub hl [1, 2, 3, 4] rfl)
  · refine lv_iload C.1.1 C.1.2.1 dX11_matches_168 (lv_at hl 0 rfl) ?_
    refine r_if_eq C (tgt := 177) dX11_matches_170 (by decide) hf (fun hf => ?_) (fun hf => ?_)
    · exact (w_X11_matches_177 l hinj hZ C out k45 hk45 N) x1 x2 x3 x2 S H locs ls hf hw (lv_sub hl [1, 2, 3, 4] rfl)
    · refine lv_iload_n C.1.1 C.1.2.1 dX11_matches_173 rfl (lv_at hl 4 rfl) ?_
      refine lv_goto (tgt := 183) C.1.1 C.1.2.1 dX11_matches_174 (by decide) ?_
      exact (w_X11_matches_183 l hinj hZ C out k45 hk45 N) x1 x2 x3 x3 x2 S H locs ls hf hw (lv_sub hl [1, 2, 3, 4] rfl)
set_option maxRecDepth 100000 in
set_option maxHeartbeats 4000000 in
theorem w_X11_matches_151 {p : Program} (l : Launch) {e : Env} {s : State} {m : MethodId} {args : Array Value} {below : List Frame} {meth : Method} {c : Code} {X : XT} (hinj : XInj X nM) (hZ : ZOK (Zm X)) (C : CX p s m args meth c cX11_matches 6 RX11 none X nM (Zm X)) (out : S2) (k45 : Int → Int → Int → S2 → Option (S2)) (hk45 : ∀ (x1 : Int) (x2 : Int) (x3 : Int) (S : S2) (H : Heap) (locs : List Loc) (ls : Array Slot), k45 x1 x2 x3 S = some out → WH X shM nM s S H locs → lv_has ls 6 [(0, .ref (X.2.2 0)), (1, .int (iz x1)), (2, .int (iz x2)), (3, .int (iz x3))] → W p l e rmX11_matches s m args below meth c H locs 0 0 (QV X shM nM s args below out) (F0 m 45 ls [])) : ∀ (N : Nat), ∀ (x1 : Int) (x2 : Int) (x3 : Int) (x4 : Int) (S : S2) (H : Heap) (locs : List Loc) (ls : Array Slot), f_X11_matches_151 k45 N x1 x2 x3 x4 S = some out → WH X shM nM s S H locs → lv_has ls 6 [(0, .ref (X.2.2 0)), (1, .int (iz x1)), (2, .int (iz x2)), (3, .int (iz x3)), (4, .int (iz x4))] → W p l e rmX11_matches s m args below meth c H locs 0 0 (QV X shM nM s args below out) (F0 m 151 ls []) := by
  intro N x1 x2 x3 x4 S H locs ls hf hw hl
  unfold f_X11_matches_151 at hf
  refine r_iconst (v := 1) C dX11_matches_151 ?_
  refine lv_goto (tgt := 156) C.1.1 C.1.2.1 dX11_matches_152 (by decide) ?_
  exact (w_X11_matches_156 l hinj hZ C out k45 hk45 N) x1 x2 x3 x4 1 S H locs ls hf hw (lv_sub hl [0, 1, 2, 3, 4] rfl)
set_option maxRecDepth 100000 in
set_option maxHeartbeats 4000000 in
theorem w_X11_matches_99 {p : Program} (l : Launch) {e : Env} {s : State} {m : MethodId} {args : Array Value} {below : List Frame} {meth : Method} {c : Code} {X : XT} (hinj : XInj X nM) (hZ : ZOK (Zm X)) (C : CX p s m args meth c cX11_matches 6 RX11 none X nM (Zm X)) (out : S2) (k45 : Int → Int → Int → S2 → Option (S2)) (hk45 : ∀ (x1 : Int) (x2 : Int) (x3 : Int) (S : S2) (H : Heap) (locs : List Loc) (ls : Array Slot), k45 x1 x2 x3 S = some out → WH X shM nM s S H locs → lv_has ls 6 [(0, .ref (X.2.2 0)), (1, .int (iz x1)), (2, .int (iz x2)), (3, .int (iz x3))] → W p l e rmX11_matches s m args below meth c H locs 0 0 (QV X shM nM s args below out) (F0 m 45 ls [])) : ∀ (N : Nat), ∀ (x1 : Int) (x2 : Int) (x3 : Int) (y0 : Int) (S : S2) (H : Heap) (locs : List Loc) (ls : Array Slot), f_X11_matches_99 k45 N x1 x2 x3 y0 S = some out → WH X shM nM s S H locs → lv_has ls 6 [(0, .ref (X.2.2 0)), (1, .int (iz x1)), (2, .int (iz x2)), (3, .int (iz x3))] → W p l e rmX11_matches s m args below meth c H locs 0 0 (QV X shM nM s args below out) (F0 m 99 ls [.int (iz y0)]) := by
  intro N x1 x2 x3 y0 S H locs ls hf hw hl
  unfold f_X11_matches_99 at hf
  refine lv_istore (lv' := [(4, .int (iz y0)), (0, .ref (X.2.2 0)), (1, .int (iz x1)), (2, .int (iz x2)), (3, .int (iz x3))]) C.1.1 C.1.2.1 dX11_matches_99 hl (by decide) rfl (fun ls hl => ?_)
  refine lv_aload_n C.1.1 C.1.2.1 dX11_matches_101 rfl (lv_at hl 1 rfl) ?_
  refine r_getR (k := 39) C hw shM_0 ltM_0 cO11 rfl (by decide) tw5_183 rfl dX11_matches_102 ?_
  refine lv_iload_n C.1.1 C.1.2.1 dX11_matches_105 rfl (lv_at hl 3 rfl) ?_
  refine r_iald C hw shM_20 ltM_20 (Nat.le_of_ble_eq_true rfl) dX11_matches_106 hf (fun v106 hf => ?_)
  refine r_iconst (v := (-1)) C dX11_matches_107 ?_
  refine r_icmp_eq C (tgt := 151) dX11_matches_108 (by decide) hf (fun hf => ?_) (fun hf => ?_)
  · exact (w_X11_matches_151 l hinj hZ C out k45 hk45 N) x1 x2 x3 y0 S H locs ls hf hw (lv_sub hl [1, 2, 3, 4, 0] rfl)
  · refine lv_aload_n C.1.1 C.1.2.1 dX11_matches_111 rfl (lv_at hl 1 rfl) ?_
    refine r_getR (k := 24) C hw shM_0 ltM_0 cO11 rfl (by decide) tw5_168 rfl dX11_matches_112 ?_
    refine lv_iload_n C.1.1 C.1.2.1 dX11_matches_115 rfl (lv_at hl 4 rfl) ?_
    refine r_iald C hw shM_10 ltM_10 (Nat.le_of_ble_eq_true rfl) dX11_matches_116 hf (fun v116 hf => ?_)
    refine lv_aload_n C.1.1 C.1.2.1 dX11_matches_117 rfl (lv_at hl 1 rfl) ?_
    refine lv_iload_n C.1.1 C.1.2.1 dX11_matches_118 rfl (lv_at hl 3 rfl) ?_
    refine r_callI (As := [.int (iz x2)]) (rest := [.int (iz v116)]) (rm := rmX11_placeOf) C hw shM_0 ltM_0 cO11 tw7_41 tw7_43 tp_80 tw1_12 tw7_44 hd_X11_placeOf rfl ⟨⟨rfl, rfl⟩, Nat.le_of_ble_eq_true rfl, Nat.le_of_ble_eq_true rfl⟩ hl.1 rfl (Nat.le_of_ble_eq_true rfl) dX11_matches_119 hf (fun o ho => c_X11_placeOf l X hinj hZ N S x2 o ho) (fun v119 S119 H locs hf hw => ?_)
    refine lv_iload_n C.1.1 C.1.2.1 dX11_matches_122 rfl (lv_at hl 2 rfl) ?_
    refine r_iadd C dX11_matches_123 ?_
    refine r_scallI (As := [.int (iz v116), .int (iz (v119 + x1))]) (rest := []) (rm := rmX11_apart) C hw tw7_45 tw7_46 tw1_12 tw7_47 hd_X11_apart rfl ⟨⟨rfl, rfl⟩, Nat.le_of_ble_eq_true rfl, Nat.le_of_ble_eq_true rfl⟩ hl.1 rfl (Nat.le_of_ble_eq_true rfl) dX11_matches_124 hf (fun o ho => c_X11_apart l X hinj hZ N S119 v116 (v119 + x1) o ho) (fun v124 S124 H locs hf hw => ?_)
    refine lv_aload_n C.1.1 C.1.2.1 dX11_matches_127 rfl (lv_at hl 1 rfl) ?_
    refine r_getR (k := 24) C hw shM_0 ltM_0 cO11 rfl (by decide) tw5_168 rfl dX11_matches_128 ?_
    refine lv_aload_n C.1.1 C.1.2.1 dX11_matches_131 rfl (lv_at hl 1 rfl) ?_
    refine r_getR (k := 39) C hw shM_0 ltM_0 cO11 rfl (by decide) tw5_183 rfl dX11_matches_132 ?_
    refine lv_iload_n C.1.1 C.1.2.1 dX11_matches_135 rfl (lv_at hl 3 rfl) ?_
    refine r_iald C hw shM_20 ltM_20 (Nat.le_of_ble_eq_true rfl) dX11_matches_136 hf (fun v136 hf => ?_)
    refine r_iald C hw shM_10 ltM_10 (Nat.le_of_ble_eq_true rfl) dX11_matches_137 hf (fun v137 hf => ?_)
    refine lv_aload_n C.1.1 C.1.2.1 dX11_matches_138 rfl (lv_at hl 1 rfl) ?_
    refine lv_iload_n C.1.1 C.1.2.1 dX11_matches_139 rfl (lv_at hl 3 rfl) ?_
    refine r_callI (As := [.int (iz x2)]) (rest := [.int (iz v137), .int (iz v124)]) (rm := rmX11_placeOf) C hw shM_0 ltM_0 cO11 tw7_41 tw7_43 tp_80 tw1_12 tw7_44 hd_X11_placeOf rfl ⟨⟨rfl, rfl⟩, Nat.le_of_ble_eq_true rfl, Nat.le_of_ble_eq_true rfl⟩ hl.1 rfl (Nat.le_of_ble_eq_true rfl) dX11_matches_140 hf (fun o ho => c_X11_placeOf l X hinj hZ N S124 x2 o ho) (fun v140 S140 H locs hf hw => ?_)
    refine lv_iload_n C.1.1 C.1.2.1 dX11_matches_143 rfl (lv_at hl 2 rfl) ?_
    refine r_iadd C dX11_matches_144 ?_
    refine r_scallI (As := [.int (iz v137), .int (iz (v140 + x1))]) (rest := [.int (iz v124)]) (rm := rmX11_apart) C hw tw7_45 tw7_46 tw1_12 tw7_47 hd_X11_apart rfl ⟨⟨rfl, rfl⟩, Nat.le_of_ble_eq_true rfl, Nat.le_of_ble_eq_true rfl⟩ hl.1 rfl (Nat.le_of_ble_eq_true rfl) dX11_matches_145 hf (fun o ho => c_X11_apart l X hinj hZ N S140 v137 (v140 + x1) o ho) (fun v145 S145 H locs hf hw => ?_)
    refine r_icmp_ge C (tgt := 155) dX11_matches_148 (by decide) hf (fun hf => ?_) (fun hf => ?_)
    · refine r_iconst (v := 0) C dX11_matches_155 ?_
      exact (w_X11_matches_156 l hinj hZ C out k45 hk45 N) x1 x2 x3 y0 0 S145 H locs ls hf hw (lv_sub hl [1, 2, 3, 4, 0] rfl)
    · exact (w_X11_matches_151 l hinj hZ C out k45 hk45 N) x1 x2 x3 y0 S145 H locs ls hf hw (lv_sub hl [1, 2, 3, 4, 0] rfl)
set_option maxRecDepth 100000 in
set_option maxHeartbeats 4000000 in
theorem w_X11_matches_98 {p : Program} (l : Launch) {e : Env} {s : State} {m : MethodId} {args : Array Value} {below : List Frame} {meth : Method} {c : Code} {X : XT} (hinj : XInj X nM) (hZ : ZOK (Zm X)) (C : CX p s m args meth c cX11_matches 6 RX11 none X nM (Zm X)) (out : S2) (k45 : Int → Int → Int → S2 → Option (S2)) (hk45 : ∀ (x1 : Int) (x2 : Int) (x3 : Int) (S : S2) (H : Heap) (locs : List Loc) (ls : Array Slot), k45 x1 x2 x3 S = some out → WH X shM nM s S H locs → lv_has ls 6 [(0, .ref (X.2.2 0)), (1, .int (iz x1)), (2, .int (iz x2)), (3, .int (iz x3))] → W p l e rmX11_matches s m args below meth c H locs 0 0 (QV X shM nM s args below out) (F0 m 45 ls [])) : ∀ (N : Nat), ∀ (x1 : Int) (x2 : Int) (x3 : Int) (S : S2) (H : Heap) (locs : List Loc) (ls : Array Slot), f_X11_matches_98 k45 N x1 x2 x3 S = some out → WH X shM nM s S H locs → lv_has ls 6 [(0, .ref (X.2.2 0)), (1, .int (iz x1)), (2, .int (iz x2)), (3, .int (iz x3))] → W p l e rmX11_matches s m args below meth c H locs 0 0 (QV X shM nM s args below out) (F0 m 98 ls []) := by
  intro N x1 x2 x3 S H locs ls hf hw hl
  unfold f_X11_matches_98 at hf
  refine r_iconst (v := 0) C dX11_matches_98 ?_
  exact (w_X11_matches_99 l hinj hZ C out k45 hk45 N) x1 x2 x3 0 S H locs ls hf hw (lv_sub hl [0, 1, 2, 3] rfl)
set_option maxRecDepth 100000 in
set_option maxHeartbeats 4000000 in
theorem w_X11_matches_45 {p : Program} (l : Launch) {e : Env} {s : State} {m : MethodId} {args : Array Value} {below : List Frame} {meth : Method} {c : Code} {X : XT} (hinj : XInj X nM) (hZ : ZOK (Zm X)) (C : CX p s m args meth c cX11_matches 6 RX11 none X nM (Zm X)) (out : S2) (k190 : Int → Int → S2 → Option (S2)) (hk190 : ∀ (x1 : Int) (x2 : Int) (S : S2) (H : Heap) (locs : List Loc) (ls : Array Slot), k190 x1 x2 S = some out → WH X shM nM s S H locs → lv_has ls 6 [(0, .ref (X.2.2 0)), (1, .int (iz x1)), (2, .int (iz x2))] → W p l e rmX11_matches s m args below meth c H locs 0 0 (QV X shM nM s args below out) (F0 m 190 ls [])) : ∀ (N : Nat), ∀ (x1 : Int) (x2 : Int) (x3 : Int) (S : S2) (H : Heap) (locs : List Loc) (ls : Array Slot), f_X11_matches_45 k190 N x1 x2 x3 S = some out → WH X shM nM s S H locs → lv_has ls 6 [(0, .ref (X.2.2 0)), (1, .int (iz x1)), (2, .int (iz x2)), (3, .int (iz x3))] → W p l e rmX11_matches s m args below meth c H locs 0 0 (QV X shM nM s args below out) (F0 m 45 ls []) := by
  intro N
  induction N with
  | zero => intro x1 x2 x3 S H locs ls hf hw hl; cases hf
  | succ N ih =>
    intro x1 x2 x3 S H locs ls hf hw hl
    rw [f_X11_matches_45.eq_2] at hf
    refine lv_iload_n C.1.1 C.1.2.1 dX11_matches_45 rfl (lv_at hl 3 rfl) ?_
    refine lv_aload_n C.1.1 C.1.2.1 dX11_matches_46 rfl (lv_at hl 0 rfl) ?_
    refine r_getI (k := 27) C hw shM_0 ltM_0 cO11 rfl (by decide) tw5_171 rfl dX11_matches_47 hf (fun v47 hf => ?_)
    refine r_icmp_ge C (tgt := 190) dX11_matches_50 (by decide) hf (fun hf => ?_) (fun hf => ?_)
    · exact hk190 x1 x2 S H locs ls hf hw (lv_sub hl [0, 1, 2] rfl)
    · refine lv_iload_n C.1.1 C.1.2.1 dX11_matches_53 rfl (lv_at hl 2 rfl) ?_
      refine lv_aload_n C.1.1 C.1.2.1 dX11_matches_54 rfl (lv_at hl 0 rfl) ?_
      refine r_getI (k := 38) C hw shM_0 ltM_0 cO11 rfl (by decide) tw5_182 rfl dX11_matches_55 hf (fun v55 hf => ?_)
      refine r_icmp_ge C (tgt := 190) dX11_matches_58 (by decide) hf (fun hf => ?_) (fun hf => ?_)
      · exact hk190 x1 x2 S H locs ls hf hw (lv_sub hl [0, 1, 2] rfl)
      · refine lv_aload_n C.1.1 C.1.2.1 dX11_matches_61 rfl (lv_at hl 0 rfl) ?_
        refine r_getR (k := 40) C hw shM_0 ltM_0 cO11 rfl (by decide) tw5_184 rfl dX11_matches_62 ?_
        refine lv_iload_n C.1.1 C.1.2.1 dX11_matches_65 rfl (lv_at hl 3 rfl) ?_
        refine r_iald C hw shM_21 ltM_21 (Nat.le_of_ble_eq_true rfl) dX11_matches_66 hf (fun v66 hf => ?_)
        refine r_iconst (v := (-1)) C dX11_matches_67 ?_
        refine r_icmp_ne C (tgt := 98) dX11_matches_68 (by decide) hf (fun hf => ?_) (fun hf => ?_)
        · exact (w_X11_matches_98 l hinj hZ C out (f_X11_matches_45 k190 N) ih N) x1 x2 x3 S H locs ls hf hw (lv_sub hl [0, 1, 2, 3] rfl)
        · refine lv_aload_n C.1.1 C.1.2.1 dX11_matches_71 rfl (lv_at hl 0 rfl) ?_
          refine r_getR (k := 24) C hw shM_0 ltM_0 cO11 rfl (by decide) tw5_168 rfl dX11_matches_72 ?_
          refine lv_iload_n C.1.1 C.1.2.1 dX11_matches_75 rfl (lv_at hl 3 rfl) ?_
          refine r_iald C hw shM_10 ltM_10 (Nat.le_of_ble_eq_true rfl) dX11_matches_76 hf (fun v76 hf => ?_)
          refine lv_aload_n C.1.1 C.1.2.1 dX11_matches_77 rfl (lv_at hl 0 rfl) ?_
          refine lv_iload_n C.1.1 C.1.2.1 dX11_matches_78 rfl (lv_at hl 2 rfl) ?_
          refine r_callI (As := [.int (iz x2)]) (rest := [.int (iz v76)]) (rm := rmX11_placeOf) C hw shM_0 ltM_0 cO11 tw7_41 tw7_43 tp_80 tw1_12 tw7_44 hd_X11_placeOf rfl ⟨⟨rfl, rfl⟩, Nat.le_of_ble_eq_true rfl, Nat.le_of_ble_eq_true rfl⟩ hl.1 rfl (Nat.le_of_ble_eq_true rfl) dX11_matches_79 hf (fun o ho => c_X11_placeOf l X hinj hZ N S x2 o ho) (fun v79 S79 H locs hf hw => ?_)
          refine lv_iload_n C.1.1 C.1.2.1 dX11_matches_82 rfl (lv_at hl 1 rfl) ?_
          refine r_iadd C dX11_matches_83 ?_
          refine r_scallI (As := [.int (iz v76), .int (iz (v79 + x1))]) (rest := []) (rm := rmX11_apart) C hw tw7_45 tw7_46 tw1_12 tw7_47 hd_X11_apart rfl ⟨⟨rfl, rfl⟩, Nat.le_of_ble_eq_true rfl, Nat.le_of_ble_eq_true rfl⟩ hl.1 rfl (Nat.le_of_ble_eq_true rfl) dX11_matches_84 hf (fun o ho => c_X11_apart l X hinj hZ N S79 v76 (v79 + x1) o ho) (fun v84 S84 H locs hf hw => ?_)
          refine lv_aload_n C.1.1 C.1.2.1 dX11_matches_87 rfl (lv_at hl 0 rfl) ?_
          refine r_getI (k := 28) C hw shM_0 ltM_0 cO11 rfl (by decide) tw5_172 rfl dX11_matches_88 hf (fun v88 hf => ?_)
          refine r_icmp_gt C (tgt := 98) dX11_matches_91 (by decide) hf (fun hf => ?_) (fun hf => ?_)
          · exact (w_X11_matches_98 l hinj hZ C out (f_X11_matches_45 k190 N) ih N) x1 x2 x3 S84 H locs ls hf hw (lv_sub hl [0, 1, 2, 3] rfl)
          · refine r_iconst (v := 1) C dX11_matches_94 ?_
            refine lv_goto (tgt := 99) C.1.1 C.1.2.1 dX11_matches_95 (by decide) ?_
            exact (w_X11_matches_99 l hinj hZ C out (f_X11_matches_45 k190 N) ih N) x1 x2 x3 1 S84 H locs ls hf hw (lv_sub hl [0, 1, 2, 3] rfl)
set_option maxRecDepth 100000 in
set_option maxHeartbeats 4000000 in
theorem w_X11_matches_28 {p : Program} (l : Launch) {e : Env} {s : State} {m : MethodId} {args : Array Value} {below : List Frame} {meth : Method} {c : Code} {X : XT} (hinj : XInj X nM) (hZ : ZOK (Zm X)) (C : CX p s m args meth c cX11_matches 6 RX11 none X nM (Zm X)) (out : S2) : ∀ (N : Nat), ∀ (x1 : Int) (x2 : Int) (S : S2) (H : Heap) (locs : List Loc) (ls : Array Slot), f_X11_matches_28 N x1 x2 S = some out → WH X shM nM s S H locs → lv_has ls 6 [(0, .ref (X.2.2 0)), (1, .int (iz x1)), (2, .int (iz x2))] → W p l e rmX11_matches s m args below meth c H locs 0 0 (QV X shM nM s args below out) (F0 m 28 ls []) := by
  intro N
  induction N with
  | zero => intro x1 x2 S H locs ls hf hw hl; cases hf
  | succ N ih =>
    intro x1 x2 S H locs ls hf hw hl
    rw [f_X11_matches_28.eq_2] at hf
    refine lv_iload_n C.1.1 C.1.2.1 dX11_matches_28 rfl (lv_at hl 2 rfl) ?_
    refine lv_aload_n C.1.1 C.1.2.1 dX11_matches_29 rfl (lv_at hl 0 rfl) ?_
    refine r_getI (k := 35) C hw shM_0 ltM_0 cO11 rfl (by decide) tw5_179 rfl dX11_matches_30 hf (fun v30 hf => ?_)
    refine r_icmp_ge C (tgt := 228) dX11_matches_33 (by decide) hf (fun hf => ?_) (fun hf => ?_)
    · exact r_retV C hw dX11_matches_228 hf
    · refine lv_aload_n C.1.1 C.1.2.1 dX11_matches_36 rfl (lv_at hl 0 rfl) ?_
      refine r_getR (k := 39) C hw shM_0 ltM_0 cO11 rfl (by decide) tw5_183 rfl dX11_matches_37 ?_
      refine lv_iload_n C.1.1 C.1.2.1 dX11_matches_40 rfl (lv_at hl 2 rfl) ?_
      refine r_iconst (v := (-1)) C dX11_matches_41 ?_
      refine r_iast C hw shM_20 ltM_20 (Nat.le_of_ble_eq_true rfl) dX11_matches_42 hf (fun S42 H locs hf hw => ?_)
      refine r_iconst (v := 0) C dX11_matches_43 ?_
      refine lv_istore_n (lv' := [(3, .int (iz 0)), (0, .ref (X.2.2 0)), (1, .int (iz x1)), (2, .int (iz x2))]) C.1.1 C.1.2.1 dX11_matches_44 rfl hl (by decide) rfl (fun ls hl => ?_)
      exact (w_X11_matches_45 l hinj hZ C out (f_X11_matches_190 (f_X11_matches_28 N) N) (w_X11_matches_190 l hinj hZ C out (f_X11_matches_28 N) ih N) N) x1 x2 0 S42 H locs ls hf hw (lv_sub hl [1, 2, 3, 0] rfl)
set_option maxRecDepth 100000 in
set_option maxHeartbeats 4000000 in
theorem w_X11_matches_26 {p : Program} (l : Launch) {e : Env} {s : State} {m : MethodId} {args : Array Value} {below : List Frame} {meth : Method} {c : Code} {X : XT} (hinj : XInj X nM) (hZ : ZOK (Zm X)) (C : CX p s m args meth c cX11_matches 6 RX11 none X nM (Zm X)) (out : S2) : ∀ (N : Nat), ∀ (x1 : Int) (S : S2) (H : Heap) (locs : List Loc) (ls : Array Slot), f_X11_matches_26 N x1 S = some out → WH X shM nM s S H locs → lv_has ls 6 [(0, .ref (X.2.2 0)), (1, .int (iz x1))] → W p l e rmX11_matches s m args below meth c H locs 0 0 (QV X shM nM s args below out) (F0 m 26 ls []) := by
  intro N x1 S H locs ls hf hw hl
  unfold f_X11_matches_26 at hf
  refine r_iconst (v := 0) C dX11_matches_26 ?_
  refine lv_istore_n (lv' := [(2, .int (iz 0)), (0, .ref (X.2.2 0)), (1, .int (iz x1))]) C.1.1 C.1.2.1 dX11_matches_27 rfl hl (by decide) rfl (fun ls hl => ?_)
  exact (w_X11_matches_28 l hinj hZ C out N) x1 0 S H locs ls hf hw (lv_sub hl [1, 2, 0] rfl)
set_option maxRecDepth 100000 in
set_option maxHeartbeats 4000000 in
theorem w_X11_matches_7 {p : Program} (l : Launch) {e : Env} {s : State} {m : MethodId} {args : Array Value} {below : List Frame} {meth : Method} {c : Code} {X : XT} (hinj : XInj X nM) (hZ : ZOK (Zm X)) (C : CX p s m args meth c cX11_matches 6 RX11 none X nM (Zm X)) (out : S2) (k26 : Int → S2 → Option (S2)) (hk26 : ∀ (x1 : Int) (S : S2) (H : Heap) (locs : List Loc) (ls : Array Slot), k26 x1 S = some out → WH X shM nM s S H locs → lv_has ls 6 [(0, .ref (X.2.2 0)), (1, .int (iz x1))] → W p l e rmX11_matches s m args below meth c H locs 0 0 (QV X shM nM s args below out) (F0 m 26 ls [])) : ∀ (N : Nat), ∀ (x1 : Int) (x2 : Int) (S : S2) (H : Heap) (locs : List Loc) (ls : Array Slot), f_X11_matches_7 k26 N x1 x2 S = some out → WH X shM nM s S H locs → lv_has ls 6 [(0, .ref (X.2.2 0)), (1, .int (iz x1)), (2, .int (iz x2))] → W p l e rmX11_matches s m args below meth c H locs 0 0 (QV X shM nM s args below out) (F0 m 7 ls []) := by
  intro N
  induction N with
  | zero => intro x1 x2 S H locs ls hf hw hl; cases hf
  | succ N ih =>
    intro x1 x2 S H locs ls hf hw hl
    rw [f_X11_matches_7.eq_2] at hf
    refine lv_iload_n C.1.1 C.1.2.1 dX11_matches_7 rfl (lv_at hl 2 rfl) ?_
    refine r_bipush (v := 8) C dX11_matches_8 (by decide) ?_
    refine r_icmp_ge C (tgt := 26) dX11_matches_10 (by decide) hf (fun hf => ?_) (fun hf => ?_)
    · exact hk26 x1 S H locs ls hf hw (lv_sub hl [0, 1] rfl)
    · refine lv_aload_n C.1.1 C.1.2.1 dX11_matches_13 rfl (lv_at hl 0 rfl) ?_
      refine r_getR (k := 40) C hw shM_0 ltM_0 cO11 rfl (by decide) tw5_184 rfl dX11_matches_14 ?_
      refine lv_iload_n C.1.1 C.1.2.1 dX11_matches_17 rfl (lv_at hl 2 rfl) ?_
      refine r_iconst (v := (-1)) C dX11_matches_18 ?_
      refine r_iast C hw shM_21 ltM_21 (Nat.le_of_ble_eq_true rfl) dX11_matches_19 hf (fun S19 H locs hf hw => ?_)
      refine lv_iinc (v := iz (x2 + 1)) (lv' := [(2, .int (iz (x2 + 1))), (0, .ref (X.2.2 0)), (1, .int (iz x1))]) C.1.1 C.1.2.1 dX11_matches_20 hl (k := 2) rfl (iz_add _ _) (by decide) rfl (fun ls hl => ?_)
      refine lv_goto (tgt := 7) C.1.1 C.1.2.1 dX11_matches_23 (by decide) ?_
      exact ih x1 (x2 + 1) S19 H locs ls hf hw (lv_sub hl [1, 2, 0] rfl)
set_option maxRecDepth 100000 in
set_option maxHeartbeats 4000000 in
theorem c_X11_matches (l : Launch) (X : XT) (hinj : XInj X nM) (hZ : ZOK (Zm X)) (N : Nat) (S : S2) (a1 : Int) (out : S2) (hf : f_X11_matches N S a1 = some out) : MV l X shM nM (Zm X) yX11_matches cX11_matches 6 none rmX11_matches [.ref (X.2.2 0), .int (iz a1)] S out := by
  refine met_V (own := RX11) (by decide) rfl hinj hZ (Nat.le_of_ble_eq_true rfl) (fun p e s m args below meth c C ls H locs hw hl => ?_)
  unfold f_X11_matches at hf
  have hl : lv_has ls 6 [(0, .ref (X.2.2 0)), (1, .int (iz a1))] := hl
  refine lv_aload_n C.1.1 C.1.2.1 dX11_matches_0 rfl (lv_at hl 0 rfl) ?_
  refine r_iconst (v := 0) C dX11_matches_1 ?_
  refine r_putI (k := 41) C hw shM_0 ltM_0 cO11 rfl (by decide) tw5_185 rfl rfl rfl dX11_matches_2 hf (fun S2 H locs hf hw => ?_)
  refine r_iconst (v := 0) C dX11_matches_5 ?_
  refine lv_istore_n (lv' := [(2, .int (iz 0)), (0, .ref (X.2.2 0)), (1, .int (iz a1))]) C.1.1 C.1.2.1 dX11_matches_6 rfl hl (by decide) rfl (fun ls hl => ?_)
  exact (w_X11_matches_7 l hinj hZ C out (f_X11_matches_26 N) (w_X11_matches_26 l hinj hZ C out N) N) a1 0 S2 H locs ls hf hw (lv_sub hl [1, 2, 0] rfl)
def f_X11_beside_91 (k5 : Int → Int → Int → Int → S2 → Option (Int × S2)) (N : Nat) (x1 : Int) (x2 : Int) (x4 : Int) (y0 : Int) (S : S2) : Option (Int × S2) := k5 x1 x2 y0 (x4 + 1) S
def f_X11_beside_90 (k5 : Int → Int → Int → Int → S2 → Option (Int × S2)) (N : Nat) (x1 : Int) (x2 : Int) (x3 : Int) (x4 : Int) (S : S2) : Option (Int × S2) := (f_X11_beside_91 k5 N) x1 x2 x4 x3 S
def f_X11_beside_85 (k5 : Int → Int → Int → Int → S2 → Option (Int × S2)) (N : Nat) (x1 : Int) (x2 : Int) (x4 : Int) (S : S2) : Option (Int × S2) := (f_X11_beside_91 k5 N) x1 x2 x4 x4 S
def f_X11_beside_51 (k5 : Int → Int → Int → Int → S2 → Option (Int × S2)) (N : Nat) (x1 : Int) (x2 : Int) (x3 : Int) (x4 : Int) (y0 : Int) (S : S2) : Option (Int × S2) := cI y0 0 (if y0 = 0 then (f_X11_beside_90 k5 N) x1 x2 x3 x4 S else cI x3 (-1) (if x3 = (-1) then (f_X11_beside_85 k5 N) x1 x2 x4 S else bI (f_X11_placeOf N S x4) fun v66 S66 => bI (f_X11_apart N S66 v66 x1) fun v70 S70 => bI (f_X11_placeOf N S70 x3) fun v75 S75 => bI (f_X11_apart N S75 v75 x1) fun v79 S79 => cI v70 v79 (if v79 ≤ v70 then (f_X11_beside_90 k5 N) x1 x2 x3 x4 S79 else (f_X11_beside_85 k5 N) x1 x2 x4 S79)))
def f_X11_beside_5 : Nat → Int → Int → Int → Int → S2 → Option (Int × S2)
  | 0, _, _, _, _, _ => none
  | N + 1, x1, x2, x3, x4, S => gI S 0 38 fun v8 => cI x4 v8 (if v8 ≤ x4 then rI x3 S else cI x2 0 (if x2 ≤ 0 then bI (f_X11_placeOf N S x4) fun v39 S39 => cI v39 x1 (if x1 ≤ v39 then (f_X11_beside_51 (f_X11_beside_5 N) N) x1 x2 x3 x4 0 S39 else (f_X11_beside_51 (f_X11_beside_5 N) N) x1 x2 x3 x4 1 S39) else bI (f_X11_placeOf N S x4) fun v21 S21 => cI v21 x1 (if v21 ≤ x1 then (f_X11_beside_51 (f_X11_beside_5 N) N) x1 x2 x3 x4 0 S21 else (f_X11_beside_51 (f_X11_beside_5 N) N) x1 x2 x3 x4 1 S21)))
def f_X11_beside (N : Nat) (S : S2) (a1 : Int) (a2 : Int) : Option (Int × S2) := (f_X11_beside_5 N) a1 a2 (-1) 0 S
abbrev rmX11_beside : Room := { frames := 1, cells := 0, slots := 0, locals := 21 }
theorem hd_X11_beside : yX11_beside.cls ≠ "java/lang/invoke/MethodHandle" ∧ yX11_beside.cls ≠ "java/lang/invoke/VarHandle" ∧ (parseMethodDescriptor yX11_beside.desc).map (fun d => d.parameters.length) = some 2 := by decide +kernel
set_option maxRecDepth 100000 in
set_option maxHeartbeats 4000000 in
theorem w_X11_beside_91 {p : Program} (l : Launch) {e : Env} {s : State} {m : MethodId} {args : Array Value} {below : List Frame} {meth : Method} {c : Code} {X : XT} (hinj : XInj X nM) (hZ : ZOK (Zm X)) (C : CX p s m args meth c cX11_beside 6 RX11 (some .int) X nM (Zm X)) (out : Int × S2) (k5 : Int → Int → Int → Int → S2 → Option (Int × S2)) (hk5 : ∀ (x1 : Int) (x2 : Int) (x3 : Int) (x4 : Int) (S : S2) (H : Heap) (locs : List Loc) (ls : Array Slot), k5 x1 x2 x3 x4 S = some out → WH X shM nM s S H locs → lv_has ls 6 [(0, .ref (X.2.2 0)), (1, .int (iz x1)), (2, .int (iz x2)), (3, .int (iz x3)), (4, .int (iz x4))] → W p l e rmX11_beside s m args below meth c H locs 0 0 (QI X shM nM s args below out) (F0 m 5 ls [])) : ∀ (N : Nat), ∀ (x1 : Int) (x2 : Int) (x4 : Int) (y0 : Int) (S : S2) (H : Heap) (locs : List Loc) (ls : Array Slot), f_X11_beside_91 k5 N x1 x2 x4 y0 S = some out → WH X shM nM s S H locs → lv_has ls 6 [(0, .ref (X.2.2 0)), (1, .int (iz x1)), (2, .int (iz x2)), (4, .int (iz x4))] → W p l e rmX11_beside s m args below meth c H locs 0 0 (QI X shM nM s args below out) (F0 m 91 ls [.int (iz y0)]) := by
  intro N x1 x2 x4 y0 S H locs ls hf hw hl
  unfold f_X11_beside_91 at hf
  refine lv_istore_n (lv' := [(3, .int (iz y0)), (0, .ref (X.2.2 0)), (1, .int (iz x1)), (2, .int (iz x2)), (4, .int (iz x4))]) C.1.1 C.1.2.1 dX11_beside_91 rfl hl (by decide) rfl (fun ls hl => ?_)
  refine lv_iinc (v := iz (x4 + 1)) (lv' := [(4, .int (iz (x4 + 1))), (3, .int (iz y0)), (0, .ref (X.2.2 0)), (1, .int (iz x1)), (2, .int (iz x2))]) C.1.1 C.1.2.1 dX11_beside_92 hl (k := 4) rfl (iz_add _ _) (by decide) rfl (fun ls hl => ?_)
  refine lv_goto (tgt := 5) C.1.1 C.1.2.1 dX11_beside_95 (by decide) ?_
  exact hk5 x1 x2 y0 (x4 + 1) S H locs ls hf hw (lv_sub hl [2, 3, 4, 1, 0] rfl)
set_option maxRecDepth 100000 in
set_option maxHeartbeats 4000000 in
theorem w_X11_beside_90 {p : Program} (l : Launch) {e : Env} {s : State} {m : MethodId} {args : Array Value} {below : List Frame} {meth : Method} {c : Code} {X : XT} (hinj : XInj X nM) (hZ : ZOK (Zm X)) (C : CX p s m args meth c cX11_beside 6 RX11 (some .int) X nM (Zm X)) (out : Int × S2) (k5 : Int → Int → Int → Int → S2 → Option (Int × S2)) (hk5 : ∀ (x1 : Int) (x2 : Int) (x3 : Int) (x4 : Int) (S : S2) (H : Heap) (locs : List Loc) (ls : Array Slot), k5 x1 x2 x3 x4 S = some out → WH X shM nM s S H locs → lv_has ls 6 [(0, .ref (X.2.2 0)), (1, .int (iz x1)), (2, .int (iz x2)), (3, .int (iz x3)), (4, .int (iz x4))] → W p l e rmX11_beside s m args below meth c H locs 0 0 (QI X shM nM s args below out) (F0 m 5 ls [])) : ∀ (N : Nat), ∀ (x1 : Int) (x2 : Int) (x3 : Int) (x4 : Int) (S : S2) (H : Heap) (locs : List Loc) (ls : Array Slot), f_X11_beside_90 k5 N x1 x2 x3 x4 S = some out → WH X shM nM s S H locs → lv_has ls 6 [(0, .ref (X.2.2 0)), (1, .int (iz x1)), (2, .int (iz x2)), (3, .int (iz x3)), (4, .int (iz x4))] → W p l e rmX11_beside s m args below meth c H locs 0 0 (QI X shM nM s args below out) (F0 m 90 ls []) := by
  intro N x1 x2 x3 x4 S H locs ls hf hw hl
  unfold f_X11_beside_90 at hf
  refine lv_iload_n C.1.1 C.1.2.1 dX11_beside_90 rfl (lv_at hl 3 rfl) ?_
  exact (w_X11_beside_91 l hinj hZ C out k5 hk5 N) x1 x2 x4 x3 S H locs ls hf hw (lv_sub hl [0, 1, 2, 4] rfl)
set_option maxRecDepth 100000 in
set_option maxHeartbeats 4000000 in
theorem w_X11_beside_85 {p : Program} (l : Launch) {e : Env} {s : State} {m : MethodId} {args : Array Value} {below : List Frame} {meth : Method} {c : Code} {X : XT} (hinj : XInj X nM) (hZ : ZOK (Zm X)) (C : CX p s m args meth c cX11_beside 6 RX11 (some .int) X nM (Zm X)) (out : Int × S2) (k5 : Int → Int → Int → Int → S2 → Option (Int × S2)) (hk5 : ∀ (x1 : Int) (x2 : Int) (x3 : Int) (x4 : Int) (S : S2) (H : Heap) (locs : List Loc) (ls : Array Slot), k5 x1 x2 x3 x4 S = some out → WH X shM nM s S H locs → lv_has ls 6 [(0, .ref (X.2.2 0)), (1, .int (iz x1)), (2, .int (iz x2)), (3, .int (iz x3)), (4, .int (iz x4))] → W p l e rmX11_beside s m args below meth c H locs 0 0 (QI X shM nM s args below out) (F0 m 5 ls [])) : ∀ (N : Nat), ∀ (x1 : Int) (x2 : Int) (x4 : Int) (S : S2) (H : Heap) (locs : List Loc) (ls : Array Slot), f_X11_beside_85 k5 N x1 x2 x4 S = some out → WH X shM nM s S H locs → lv_has ls 6 [(0, .ref (X.2.2 0)), (1, .int (iz x1)), (2, .int (iz x2)), (4, .int (iz x4))] → W p l e rmX11_beside s m args below meth c H locs 0 0 (QI X shM nM s args below out) (F0 m 85 ls []) := by
  intro N x1 x2 x4 S H locs ls hf hw hl
  unfold f_X11_beside_85 at hf
  refine lv_iload C.1.1 C.1.2.1 dX11_beside_85 (lv_at hl 3 rfl) ?_
  refine lv_goto (tgt := 91) C.1.1 C.1.2.1 dX11_beside_87 (by decide) ?_
  exact (w_X11_beside_91 l hinj hZ C out k5 hk5 N) x1 x2 x4 x4 S H locs ls hf hw (lv_sub hl [0, 1, 2, 3] rfl)
set_option maxRecDepth 100000 in
set_option maxHeartbeats 4000000 in
theorem w_X11_beside_51 {p : Program} (l : Launch) {e : Env} {s : State} {m : MethodId} {args : Array Value} {below : List Frame} {meth : Method} {c : Code} {X : XT} (hinj : XInj X nM) (hZ : ZOK (Zm X)) (C : CX p s m args meth c cX11_beside 6 RX11 (some .int) X nM (Zm X)) (out : Int × S2) (k5 : Int → Int → Int → Int → S2 → Option (Int × S2)) (hk5 : ∀ (x1 : Int) (x2 : Int) (x3 : Int) (x4 : Int) (S : S2) (H : Heap) (locs : List Loc) (ls : Array Slot), k5 x1 x2 x3 x4 S = some out → WH X shM nM s S H locs → lv_has ls 6 [(0, .ref (X.2.2 0)), (1, .int (iz x1)), (2, .int (iz x2)), (3, .int (iz x3)), (4, .int (iz x4))] → W p l e rmX11_beside s m args below meth c H locs 0 0 (QI X shM nM s args below out) (F0 m 5 ls [])) : ∀ (N : Nat), ∀ (x1 : Int) (x2 : Int) (x3 : Int) (x4 : Int) (y0 : Int) (S : S2) (H : Heap) (locs : List Loc) (ls : Array Slot), f_X11_beside_51 k5 N x1 x2 x3 x4 y0 S = some out → WH X shM nM s S H locs → lv_has ls 6 [(0, .ref (X.2.2 0)), (1, .int (iz x1)), (2, .int (iz x2)), (3, .int (iz x3)), (4, .int (iz x4))] → W p l e rmX11_beside s m args below meth c H locs 0 0 (QI X shM nM s args below out) (F0 m 51 ls [.int (iz y0)]) := by
  intro N x1 x2 x3 x4 y0 S H locs ls hf hw hl
  unfold f_X11_beside_51 at hf
  refine lv_istore (lv' := [(5, .int (iz y0)), (0, .ref (X.2.2 0)), (1, .int (iz x1)), (2, .int (iz x2)), (3, .int (iz x3)), (4, .int (iz x4))]) C.1.1 C.1.2.1 dX11_beside_51 hl (by decide) rfl (fun ls hl => ?_)
  refine lv_iload C.1.1 C.1.2.1 dX11_beside_53 (lv_at hl 0 rfl) ?_
  refine r_if_eq C (tgt := 90) dX11_beside_55 (by decide) hf (fun hf => ?_) (fun hf => ?_)
  · exact (w_X11_beside_90 l hinj hZ C out k5 hk5 N) x1 x2 x3 x4 S H locs ls hf hw (lv_sub hl [1, 2, 3, 4, 5] rfl)
  · refine lv_iload_n C.1.1 C.1.2.1 dX11_beside_58 rfl (lv_at hl 4 rfl) ?_
    refine r_iconst (v := (-1)) C dX11_beside_59 ?_
    refine r_icmp_eq C (tgt := 85) dX11_beside_60 (by decide) hf (fun hf => ?_) (fun hf => ?_)
    · exact (w_X11_beside_85 l hinj hZ C out k5 hk5 N) x1 x2 x4 S H locs ls hf hw (lv_sub hl [1, 2, 3, 5] rfl)
    · refine lv_aload_n C.1.1 C.1.2.1 dX11_beside_63 rfl (lv_at hl 1 rfl) ?_
      refine lv_iload C.1.1 C.1.2.1 dX11_beside_64 (lv_at hl 5 rfl) ?_
      refine r_callI (As := [.int (iz x4)]) (rest := []) (rm := rmX11_placeOf) C hw shM_0 ltM_0 cO11 tw7_41 tw7_43 tp_80 tw1_12 tw7_44 hd_X11_placeOf rfl ⟨⟨rfl, rfl⟩, Nat.le_of_ble_eq_true rfl, Nat.le_of_ble_eq_true rfl⟩ hl.1 rfl (Nat.le_of_ble_eq_true rfl) dX11_beside_66 hf (fun o ho => c_X11_placeOf l X hinj hZ N S x4 o ho) (fun v66 S66 H locs hf hw => ?_)
      refine lv_iload_n C.1.1 C.1.2.1 dX11_beside_69 rfl (lv_at hl 2 rfl) ?_
      refine r_scallI (As := [.int (iz v66), .int (iz x1)]) (rest := []) (rm := rmX11_apart) C hw tw7_45 tw7_46 tw1_12 tw7_47 hd_X11_apart rfl ⟨⟨rfl, rfl⟩, Nat.le_of_ble_eq_true rfl, Nat.le_of_ble_eq_true rfl⟩ hl.1 rfl (Nat.le_of_ble_eq_true rfl) dX11_beside_70 hf (fun o ho => c_X11_apart l X hinj hZ N S66 v66 x1 o ho) (fun v70 S70 H locs hf hw => ?_)
      refine lv_aload_n C.1.1 C.1.2.1 dX11_beside_73 rfl (lv_at hl 1 rfl) ?_
      refine lv_iload_n C.1.1 C.1.2.1 dX11_beside_74 rfl (lv_at hl 4 rfl) ?_
      refine r_callI (As := [.int (iz x3)]) (rest := [.int (iz v70)]) (rm := rmX11_placeOf) C hw shM_0 ltM_0 cO11 tw7_41 tw7_43 tp_80 tw1_12 tw7_44 hd_X11_placeOf rfl ⟨⟨rfl, rfl⟩, Nat.le_of_ble_eq_true rfl, Nat.le_of_ble_eq_true rfl⟩ hl.1 rfl (Nat.le_of_ble_eq_true rfl) dX11_beside_75 hf (fun o ho => c_X11_placeOf l X hinj hZ N S70 x3 o ho) (fun v75 S75 H locs hf hw => ?_)
      refine lv_iload_n C.1.1 C.1.2.1 dX11_beside_78 rfl (lv_at hl 2 rfl) ?_
      refine r_scallI (As := [.int (iz v75), .int (iz x1)]) (rest := [.int (iz v70)]) (rm := rmX11_apart) C hw tw7_45 tw7_46 tw1_12 tw7_47 hd_X11_apart rfl ⟨⟨rfl, rfl⟩, Nat.le_of_ble_eq_true rfl, Nat.le_of_ble_eq_true rfl⟩ hl.1 rfl (Nat.le_of_ble_eq_true rfl) dX11_beside_79 hf (fun o ho => c_X11_apart l X hinj hZ N S75 v75 x1 o ho) (fun v79 S79 H locs hf hw => ?_)
      refine r_icmp_ge C (tgt := 90) dX11_beside_82 (by decide) hf (fun hf => ?_) (fun hf => ?_)
      · exact (w_X11_beside_90 l hinj hZ C out k5 hk5 N) x1 x2 x3 x4 S79 H locs ls hf hw (lv_sub hl [1, 2, 3, 4, 5] rfl)
      · exact (w_X11_beside_85 l hinj hZ C out k5 hk5 N) x1 x2 x4 S79 H locs ls hf hw (lv_sub hl [1, 2, 3, 5] rfl)
set_option maxRecDepth 100000 in
set_option maxHeartbeats 4000000 in
theorem w_X11_beside_5 {p : Program} (l : Launch) {e : Env} {s : State} {m : MethodId} {args : Array Value} {below : List Frame} {meth : Method} {c : Code} {X : XT} (hinj : XInj X nM) (hZ : ZOK (Zm X)) (C : CX p s m args meth c cX11_beside 6 RX11 (some .int) X nM (Zm X)) (out : Int × S2) : ∀ (N : Nat), ∀ (x1 : Int) (x2 : Int) (x3 : Int) (x4 : Int) (S : S2) (H : Heap) (locs : List Loc) (ls : Array Slot), f_X11_beside_5 N x1 x2 x3 x4 S = some out → WH X shM nM s S H locs → lv_has ls 6 [(0, .ref (X.2.2 0)), (1, .int (iz x1)), (2, .int (iz x2)), (3, .int (iz x3)), (4, .int (iz x4))] → W p l e rmX11_beside s m args below meth c H locs 0 0 (QI X shM nM s args below out) (F0 m 5 ls []) := by
  intro N
  induction N with
  | zero => intro x1 x2 x3 x4 S H locs ls hf hw hl; cases hf
  | succ N ih =>
    intro x1 x2 x3 x4 S H locs ls hf hw hl
    rw [f_X11_beside_5.eq_2] at hf
    refine lv_iload C.1.1 C.1.2.1 dX11_beside_5 (lv_at hl 4 rfl) ?_
    refine lv_aload_n C.1.1 C.1.2.1 dX11_beside_7 rfl (lv_at hl 0 rfl) ?_
    refine r_getI (k := 38) C hw shM_0 ltM_0 cO11 rfl (by decide) tw5_182 rfl dX11_beside_8 hf (fun v8 hf => ?_)
    refine r_icmp_ge C (tgt := 98) dX11_beside_11 (by decide) hf (fun hf => ?_) (fun hf => ?_)
    · refine lv_iload_n C.1.1 C.1.2.1 dX11_beside_98 rfl (lv_at hl 3 rfl) ?_
      exact r_retI C hw dX11_beside_99 hf
    · refine lv_iload_n C.1.1 C.1.2.1 dX11_beside_14 rfl (lv_at hl 2 rfl) ?_
      refine r_if_le C (tgt := 36) dX11_beside_15 (by decide) hf (fun hf => ?_) (fun hf => ?_)
      · refine lv_aload_n C.1.1 C.1.2.1 dX11_beside_36 rfl (lv_at hl 0 rfl) ?_
        refine lv_iload C.1.1 C.1.2.1 dX11_beside_37 (lv_at hl 4 rfl) ?_
        refine r_callI (As := [.int (iz x4)]) (rest := []) (rm := rmX11_placeOf) C hw shM_0 ltM_0 cO11 tw7_41 tw7_43 tp_80 tw1_12 tw7_44 hd_X11_placeOf rfl ⟨⟨rfl, rfl⟩, Nat.le_of_ble_eq_true rfl, Nat.le_of_ble_eq_true rfl⟩ hl.1 rfl (Nat.le_of_ble_eq_true rfl) dX11_beside_39 hf (fun o ho => c_X11_placeOf l X hinj hZ N S x4 o ho) (fun v39 S39 H locs hf hw => ?_)
        refine lv_iload_n C.1.1 C.1.2.1 dX11_beside_42 rfl (lv_at hl 1 rfl) ?_
        refine r_icmp_ge C (tgt := 50) dX11_beside_43 (by decide) hf (fun hf => ?_) (fun hf => ?_)
        · refine r_iconst (v := 0) C dX11_beside_50 ?_
          exact (w_X11_beside_51 l hinj hZ C out (f_X11_beside_5 N) ih N) x1 x2 x3 x4 0 S39 H locs ls hf hw (lv_sub hl [0, 1, 2, 3, 4] rfl)
        · refine r_iconst (v := 1) C dX11_beside_46 ?_
          refine lv_goto (tgt := 51) C.1.1 C.1.2.1 dX11_beside_47 (by decide) ?_
          exact (w_X11_beside_51 l hinj hZ C out (f_X11_beside_5 N) ih N) x1 x2 x3 x4 1 S39 H locs ls hf hw (lv_sub hl [0, 1, 2, 3, 4] rfl)
      · refine lv_aload_n C.1.1 C.1.2.1 dX11_beside_18 rfl (lv_at hl 0 rfl) ?_
        refine lv_iload C.1.1 C.1.2.1 dX11_beside_19 (lv_at hl 4 rfl) ?_
        refine r_callI (As := [.int (iz x4)]) (rest := []) (rm := rmX11_placeOf) C hw shM_0 ltM_0 cO11 tw7_41 tw7_43 tp_80 tw1_12 tw7_44 hd_X11_placeOf rfl ⟨⟨rfl, rfl⟩, Nat.le_of_ble_eq_true rfl, Nat.le_of_ble_eq_true rfl⟩ hl.1 rfl (Nat.le_of_ble_eq_true rfl) dX11_beside_21 hf (fun o ho => c_X11_placeOf l X hinj hZ N S x4 o ho) (fun v21 S21 H locs hf hw => ?_)
        refine lv_iload_n C.1.1 C.1.2.1 dX11_beside_24 rfl (lv_at hl 1 rfl) ?_
        refine r_icmp_le C (tgt := 32) dX11_beside_25 (by decide) hf (fun hf => ?_) (fun hf => ?_)
        · refine r_iconst (v := 0) C dX11_beside_32 ?_
          refine lv_goto (tgt := 51) C.1.1 C.1.2.1 dX11_beside_33 (by decide) ?_
          exact (w_X11_beside_51 l hinj hZ C out (f_X11_beside_5 N) ih N) x1 x2 x3 x4 0 S21 H locs ls hf hw (lv_sub hl [0, 1, 2, 3, 4] rfl)
        · refine r_iconst (v := 1) C dX11_beside_28 ?_
          refine lv_goto (tgt := 51) C.1.1 C.1.2.1 dX11_beside_29 (by decide) ?_
          exact (w_X11_beside_51 l hinj hZ C out (f_X11_beside_5 N) ih N) x1 x2 x3 x4 1 S21 H locs ls hf hw (lv_sub hl [0, 1, 2, 3, 4] rfl)
set_option maxRecDepth 100000 in
set_option maxHeartbeats 4000000 in
theorem c_X11_beside (l : Launch) (X : XT) (hinj : XInj X nM) (hZ : ZOK (Zm X)) (N : Nat) (S : S2) (a1 : Int) (a2 : Int) (out : Int × S2) (hf : f_X11_beside N S a1 a2 = some out) : MI l X shM nM (Zm X) yX11_beside cX11_beside 6 (some .int) rmX11_beside [.ref (X.2.2 0), .int (iz a1), .int (iz a2)] S out := by
  refine met_I (own := RX11) (by decide) rfl hinj hZ (Nat.le_of_ble_eq_true rfl) (fun p e s m args below meth c C ls H locs hw hl => ?_)
  unfold f_X11_beside at hf
  have hl : lv_has ls 6 [(0, .ref (X.2.2 0)), (1, .int (iz a1)), (2, .int (iz a2))] := hl
  refine r_iconst (v := (-1)) C dX11_beside_0 ?_
  refine lv_istore_n (lv' := [(3, .int (iz (-1))), (0, .ref (X.2.2 0)), (1, .int (iz a1)), (2, .int (iz a2))]) C.1.1 C.1.2.1 dX11_beside_1 rfl hl (by decide) rfl (fun ls hl => ?_)
  refine r_iconst (v := 0) C dX11_beside_2 ?_
  refine lv_istore (lv' := [(4, .int (iz 0)), (3, .int (iz (-1))), (0, .ref (X.2.2 0)), (1, .int (iz a1)), (2, .int (iz a2))]) C.1.1 C.1.2.1 dX11_beside_3 hl (by decide) rfl (fun ls hl => ?_)
  exact (w_X11_beside_5 l hinj hZ C out N) a1 a2 (-1) 0 S H locs ls hf hw (lv_sub hl [2, 3, 4, 1, 0] rfl)
def f_X11_lowBetween_37 (k9 : Int → Int → Int → S2 → Option (Int × S2)) (N : Nat) (x2 : Int) (x4 : Int) (y0 : Int) (S : S2) : Option (Int × S2) := k9 x2 y0 (x4 + 1) S
def f_X11_lowBetween_9 : Nat → Int → Int → Int → S2 → Option (Int × S2)
  | 0, _, _, _, _ => none
  | N + 1, x2, x3, x4, S => cI x4 x2 (if x2 ≤ x4 then rI x3 S else aI S 8 231 x4 fun v21 => aI S 8 231 x3 fun v27 => cI v21 v27 (if v27 ≤ v21 then (f_X11_lowBetween_37 (f_X11_lowBetween_9 N) N) x2 x4 x3 S else (f_X11_lowBetween_37 (f_X11_lowBetween_9 N) N) x2 x4 x4 S))
def f_X11_lowBetween (N : Nat) (S : S2) (a1 : Int) (a2 : Int) : Option (Int × S2) := (f_X11_lowBetween_9 N) a2 (a1 + 1) (a1 + 2) S
abbrev rmX11_lowBetween : Room := { frames := 0, cells := 0, slots := 0, locals := 0 }
theorem hd_X11_lowBetween : yX11_lowBetween.cls ≠ "java/lang/invoke/MethodHandle" ∧ yX11_lowBetween.cls ≠ "java/lang/invoke/VarHandle" ∧ (parseMethodDescriptor yX11_lowBetween.desc).map (fun d => d.parameters.length) = some 2 := by decide +kernel
set_option maxRecDepth 100000 in
set_option maxHeartbeats 4000000 in
theorem w_X11_lowBetween_37 {p : Program} (l : Launch) {e : Env} {s : State} {m : MethodId} {args : Array Value} {below : List Frame} {meth : Method} {c : Code} {X : XT} (hinj : XInj X nM) (hZ : ZOK (Zm X)) (C : CX p s m args meth c cX11_lowBetween 5 RX11 (some .int) X nM (Zm X)) (out : Int × S2) (k9 : Int → Int → Int → S2 → Option (Int × S2)) (hk9 : ∀ (x2 : Int) (x3 : Int) (x4 : Int) (S : S2) (H : Heap) (locs : List Loc) (ls : Array Slot), k9 x2 x3 x4 S = some out → WH X shM nM s S H locs → lv_has ls 5 [(0, .ref (X.2.2 0)), (2, .int (iz x2)), (3, .int (iz x3)), (4, .int (iz x4))] → W p l e rmX11_lowBetween s m args below meth c H locs 0 0 (QI X shM nM s args below out) (F0 m 9 ls [])) : ∀ (N : Nat), ∀ (x2 : Int) (x4 : Int) (y0 : Int) (S : S2) (H : Heap) (locs : List Loc) (ls : Array Slot), f_X11_lowBetween_37 k9 N x2 x4 y0 S = some out → WH X shM nM s S H locs → lv_has ls 5 [(0, .ref (X.2.2 0)), (2, .int (iz x2)), (4, .int (iz x4))] → W p l e rmX11_lowBetween s m args below meth c H locs 0 0 (QI X shM nM s args below out) (F0 m 37 ls [.int (iz y0)]) := by
  intro N x2 x4 y0 S H locs ls hf hw hl
  unfold f_X11_lowBetween_37 at hf
  refine lv_istore_n (lv' := [(3, .int (iz y0)), (0, .ref (X.2.2 0)), (2, .int (iz x2)), (4, .int (iz x4))]) C.1.1 C.1.2.1 dX11_lowBetween_37 rfl hl (by decide) rfl (fun ls hl => ?_)
  refine lv_iinc (v := iz (x4 + 1)) (lv' := [(4, .int (iz (x4 + 1))), (3, .int (iz y0)), (0, .ref (X.2.2 0)), (2, .int (iz x2))]) C.1.1 C.1.2.1 dX11_lowBetween_38 hl (k := 3) rfl (iz_add _ _) (by decide) rfl (fun ls hl => ?_)
  refine lv_goto (tgt := 9) C.1.1 C.1.2.1 dX11_lowBetween_41 (by decide) ?_
  exact hk9 x2 y0 (x4 + 1) S H locs ls hf hw (lv_sub hl [2, 3, 1, 0] rfl)
set_option maxRecDepth 100000 in
set_option maxHeartbeats 4000000 in
theorem w_X11_lowBetween_9 {p : Program} (l : Launch) {e : Env} {s : State} {m : MethodId} {args : Array Value} {below : List Frame} {meth : Method} {c : Code} {X : XT} (hinj : XInj X nM) (hZ : ZOK (Zm X)) (C : CX p s m args meth c cX11_lowBetween 5 RX11 (some .int) X nM (Zm X)) (out : Int × S2) : ∀ (N : Nat), ∀ (x2 : Int) (x3 : Int) (x4 : Int) (S : S2) (H : Heap) (locs : List Loc) (ls : Array Slot), f_X11_lowBetween_9 N x2 x3 x4 S = some out → WH X shM nM s S H locs → lv_has ls 5 [(0, .ref (X.2.2 0)), (2, .int (iz x2)), (3, .int (iz x3)), (4, .int (iz x4))] → W p l e rmX11_lowBetween s m args below meth c H locs 0 0 (QI X shM nM s args below out) (F0 m 9 ls []) := by
  intro N
  induction N with
  | zero => intro x2 x3 x4 S H locs ls hf hw hl; cases hf
  | succ N ih =>
    intro x2 x3 x4 S H locs ls hf hw hl
    rw [f_X11_lowBetween_9.eq_2] at hf
    refine lv_iload C.1.1 C.1.2.1 dX11_lowBetween_9 (lv_at hl 3 rfl) ?_
    refine lv_iload_n C.1.1 C.1.2.1 dX11_lowBetween_11 rfl (lv_at hl 1 rfl) ?_
    refine r_icmp_ge C (tgt := 44) dX11_lowBetween_12 (by decide) hf (fun hf => ?_) (fun hf => ?_)
    · refine lv_iload_n C.1.1 C.1.2.1 dX11_lowBetween_44 rfl (lv_at hl 2 rfl) ?_
      exact r_retI C hw dX11_lowBetween_45 hf
    · refine lv_aload_n C.1.1 C.1.2.1 dX11_lowBetween_15 rfl (lv_at hl 0 rfl) ?_
      refine r_getR (k := 22) C hw shM_0 ltM_0 cO11 rfl (by decide) tw5_166 rfl dX11_lowBetween_16 ?_
      refine lv_iload C.1.1 C.1.2.1 dX11_lowBetween_19 (lv_at hl 3 rfl) ?_
      refine r_iald C hw shM_8 ltM_8 (Nat.le_of_ble_eq_true rfl) dX11_lowBetween_21 hf (fun v21 hf => ?_)
      refine lv_aload_n C.1.1 C.1.2.1 dX11_lowBetween_22 rfl (lv_at hl 0 rfl) ?_
      refine r_getR (k := 22) C hw shM_0 ltM_0 cO11 rfl (by decide) tw5_166 rfl dX11_lowBetween_23 ?_
      refine lv_iload_n C.1.1 C.1.2.1 dX11_lowBetween_26 rfl (lv_at hl 2 rfl) ?_
      refine r_iald C hw shM_8 ltM_8 (Nat.le_of_ble_eq_true rfl) dX11_lowBetween_27 hf (fun v27 hf => ?_)
      refine r_icmp_ge C (tgt := 36) dX11_lowBetween_28 (by decide) hf (fun hf => ?_) (fun hf => ?_)
      · refine lv_iload_n C.1.1 C.1.2.1 dX11_lowBetween_36 rfl (lv_at hl 2 rfl) ?_
        exact (w_X11_lowBetween_37 l hinj hZ C out (f_X11_lowBetween_9 N) ih N) x2 x4 x3 S H locs ls hf hw (lv_sub hl [0, 1, 3] rfl)
      · refine lv_iload C.1.1 C.1.2.1 dX11_lowBetween_31 (lv_at hl 3 rfl) ?_
        refine lv_goto (tgt := 37) C.1.1 C.1.2.1 dX11_lowBetween_33 (by decide) ?_
        exact (w_X11_lowBetween_37 l hinj hZ C out (f_X11_lowBetween_9 N) ih N) x2 x4 x4 S H locs ls hf hw (lv_sub hl [0, 1, 3] rfl)
set_option maxRecDepth 100000 in
set_option maxHeartbeats 4000000 in
theorem c_X11_lowBetween (l : Launch) (X : XT) (hinj : XInj X nM) (hZ : ZOK (Zm X)) (N : Nat) (S : S2) (a1 : Int) (a2 : Int) (out : Int × S2) (hf : f_X11_lowBetween N S a1 a2 = some out) : MI l X shM nM (Zm X) yX11_lowBetween cX11_lowBetween 5 (some .int) rmX11_lowBetween [.ref (X.2.2 0), .int (iz a1), .int (iz a2)] S out := by
  refine met_I (own := RX11) (by decide) rfl hinj hZ (Nat.le_of_ble_eq_true rfl) (fun p e s m args below meth c C ls H locs hw hl => ?_)
  unfold f_X11_lowBetween at hf
  have hl : lv_has ls 5 [(0, .ref (X.2.2 0)), (1, .int (iz a1)), (2, .int (iz a2))] := hl
  refine lv_iload_n C.1.1 C.1.2.1 dX11_lowBetween_0 rfl (lv_at hl 1 rfl) ?_
  refine r_iconst (v := 1) C dX11_lowBetween_1 ?_
  refine r_iadd C dX11_lowBetween_2 ?_
  refine lv_istore_n (lv' := [(3, .int (iz (a1 + 1))), (0, .ref (X.2.2 0)), (1, .int (iz a1)), (2, .int (iz a2))]) C.1.1 C.1.2.1 dX11_lowBetween_3 rfl hl (by decide) rfl (fun ls hl => ?_)
  refine lv_iload_n C.1.1 C.1.2.1 dX11_lowBetween_4 rfl (lv_at hl 2 rfl) ?_
  refine r_iconst (v := 2) C dX11_lowBetween_5 ?_
  refine r_iadd C dX11_lowBetween_6 ?_
  refine lv_istore (lv' := [(4, .int (iz (a1 + 2))), (3, .int (iz (a1 + 1))), (0, .ref (X.2.2 0)), (1, .int (iz a1)), (2, .int (iz a2))]) C.1.1 C.1.2.1 dX11_lowBetween_7 hl (by decide) rfl (fun ls hl => ?_)
  exact (w_X11_lowBetween_9 l hinj hZ C out N) a2 (a1 + 1) (a1 + 2) S H locs ls hf hw (lv_sub hl [2, 4, 1, 0] rfl)
def f_X11_firstOf (N : Nat) (S : S2) (a1 : Int) : Option (Int × S2) := bI (f_X11_placeOf N S a1) fun v3 S3 => bI (f_X11_beside N S3 v3 (-1)) fun v7 S7 => cI v7 (-1) (if v7 = (-1) then rI 0 S7 else bI (f_X11_placeOf N S7 v7) fun v23 S23 => bI (f_X11_placeOf N S23 a1) fun v28 S28 => bI (f_X11_lowBetween N S28 v23 v28) fun v31 S31 => rI v31 S31)
abbrev rmX11_firstOf : Room := { frames := 2, cells := 0, slots := 0, locals := 46 }
theorem hd_X11_firstOf : yX11_firstOf.cls ≠ "java/lang/invoke/MethodHandle" ∧ yX11_firstOf.cls ≠ "java/lang/invoke/VarHandle" ∧ (parseMethodDescriptor yX11_firstOf.desc).map (fun d => d.parameters.length) = some 1 := by decide +kernel
set_option maxRecDepth 100000 in
set_option maxHeartbeats 4000000 in
theorem c_X11_firstOf (l : Launch) (X : XT) (hinj : XInj X nM) (hZ : ZOK (Zm X)) (N : Nat) (S : S2) (a1 : Int) (out : Int × S2) (hf : f_X11_firstOf N S a1 = some out) : MI l X shM nM (Zm X) yX11_firstOf cX11_firstOf 3 (some .int) rmX11_firstOf [.ref (X.2.2 0), .int (iz a1)] S out := by
  refine met_I (own := RX11) (by decide) rfl hinj hZ (Nat.le_of_ble_eq_true rfl) (fun p e s m args below meth c C ls H locs hw hl => ?_)
  unfold f_X11_firstOf at hf
  have hl : lv_has ls 3 [(0, .ref (X.2.2 0)), (1, .int (iz a1))] := hl
  refine lv_aload_n C.1.1 C.1.2.1 dX11_firstOf_0 rfl (lv_at hl 0 rfl) ?_
  refine lv_aload_n C.1.1 C.1.2.1 dX11_firstOf_1 rfl (lv_at hl 0 rfl) ?_
  refine lv_iload_n C.1.1 C.1.2.1 dX11_firstOf_2 rfl (lv_at hl 1 rfl) ?_
  refine r_callI (As := [.int (iz a1)]) (rest := [.ref (X.2.2 0)]) (rm := rmX11_placeOf) C hw shM_0 ltM_0 cO11 tw7_41 tw7_43 tp_80 tw1_12 tw7_44 hd_X11_placeOf rfl ⟨⟨rfl, rfl⟩, Nat.le_of_ble_eq_true rfl, Nat.le_of_ble_eq_true rfl⟩ hl.1 rfl (Nat.le_of_ble_eq_true rfl) dX11_firstOf_3 hf (fun o ho => c_X11_placeOf l X hinj hZ N S a1 o ho) (fun v3 S3 H locs hf hw => ?_)
  refine r_iconst (v := (-1)) C dX11_firstOf_6 ?_
  refine r_callI (As := [.int (iz v3), .int (iz (-1))]) (rest := []) (rm := rmX11_beside) C hw shM_0 ltM_0 cO11 tw7_194 tw7_196 tp_100 tw1_12 tw7_197 hd_X11_beside rfl ⟨⟨rfl, rfl⟩, Nat.le_of_ble_eq_true rfl, Nat.le_of_ble_eq_true rfl⟩ hl.1 rfl (Nat.le_of_ble_eq_true rfl) dX11_firstOf_7 hf (fun o ho => c_X11_beside l X hinj hZ N S3 v3 (-1) o ho) (fun v7 S7 H locs hf hw => ?_)
  refine lv_istore_n (lv' := [(2, .int (iz v7)), (0, .ref (X.2.2 0)), (1, .int (iz a1))]) C.1.1 C.1.2.1 dX11_firstOf_10 rfl hl (by decide) rfl (fun ls hl => ?_)
  refine lv_iload_n C.1.1 C.1.2.1 dX11_firstOf_11 rfl (lv_at hl 0 rfl) ?_
  refine r_iconst (v := (-1)) C dX11_firstOf_12 ?_
  refine r_icmp_ne C (tgt := 20) dX11_firstOf_13 (by decide) hf (fun hf => ?_) (fun hf => ?_)
  · refine lv_aload_n C.1.1 C.1.2.1 dX11_firstOf_20 rfl (lv_at hl 1 rfl) ?_
    refine lv_aload_n C.1.1 C.1.2.1 dX11_firstOf_21 rfl (lv_at hl 1 rfl) ?_
    refine lv_iload_n C.1.1 C.1.2.1 dX11_firstOf_22 rfl (lv_at hl 0 rfl) ?_
    refine r_callI (As := [.int (iz v7)]) (rest := [.ref (X.2.2 0)]) (rm := rmX11_placeOf) C hw shM_0 ltM_0 cO11 tw7_41 tw7_43 tp_80 tw1_12 tw7_44 hd_X11_placeOf rfl ⟨⟨rfl, rfl⟩, Nat.le_of_ble_eq_true rfl, Nat.le_of_ble_eq_true rfl⟩ hl.1 rfl (Nat.le_of_ble_eq_true rfl) dX11_firstOf_23 hf (fun o ho => c_X11_placeOf l X hinj hZ N S7 v7 o ho) (fun v23 S23 H locs hf hw => ?_)
    refine lv_aload_n C.1.1 C.1.2.1 dX11_firstOf_26 rfl (lv_at hl 1 rfl) ?_
    refine lv_iload_n C.1.1 C.1.2.1 dX11_firstOf_27 rfl (lv_at hl 2 rfl) ?_
    refine r_callI (As := [.int (iz a1)]) (rest := [.int (iz v23), .ref (X.2.2 0)]) (rm := rmX11_placeOf) C hw shM_0 ltM_0 cO11 tw7_41 tw7_43 tp_80 tw1_12 tw7_44 hd_X11_placeOf rfl ⟨⟨rfl, rfl⟩, Nat.le_of_ble_eq_true rfl, Nat.le_of_ble_eq_true rfl⟩ hl.1 rfl (Nat.le_of_ble_eq_true rfl) dX11_firstOf_28 hf (fun o ho => c_X11_placeOf l X hinj hZ N S23 a1 o ho) (fun v28 S28 H locs hf hw => ?_)
    refine r_callI (As := [.int (iz v23), .int (iz v28)]) (rest := []) (rm := rmX11_lowBetween) C hw shM_0 ltM_0 cO11 tw7_198 tw7_200 tp_101 tw1_12 tw7_201 hd_X11_lowBetween rfl ⟨⟨rfl, rfl⟩, Nat.le_of_ble_eq_true rfl, Nat.le_of_ble_eq_true rfl⟩ hl.1 rfl (Nat.le_of_ble_eq_true rfl) dX11_firstOf_31 hf (fun o ho => c_X11_lowBetween l X hinj hZ N S28 v23 v28 o ho) (fun v31 S31 H locs hf hw => ?_)
    exact r_retI C hw dX11_firstOf_34 hf
  · refine r_iconst (v := 0) C dX11_firstOf_16 ?_
    refine lv_goto (tgt := 34) C.1.1 C.1.2.1 dX11_firstOf_17 (by decide) ?_
    exact r_retI C hw dX11_firstOf_34 hf
def f_X11_lastOf (N : Nat) (S : S2) (a1 : Int) : Option (Int × S2) := bI (f_X11_placeOf N S a1) fun v3 S3 => bI (f_X11_beside N S3 v3 1) fun v7 S7 => cI v7 (-1) (if v7 = (-1) then bI (f_X11_many N S7) fun v17 S17 => rI (v17 - 1) S17 else bI (f_X11_placeOf N S7 a1) fun v28 S28 => bI (f_X11_placeOf N S28 v7) fun v33 S33 => bI (f_X11_lowBetween N S33 v28 v33) fun v36 S36 => rI (v36 - 1) S36)
abbrev rmX11_lastOf : Room := { frames := 2, cells := 0, slots := 0, locals := 46 }
theorem hd_X11_lastOf : yX11_lastOf.cls ≠ "java/lang/invoke/MethodHandle" ∧ yX11_lastOf.cls ≠ "java/lang/invoke/VarHandle" ∧ (parseMethodDescriptor yX11_lastOf.desc).map (fun d => d.parameters.length) = some 1 := by decide +kernel
set_option maxRecDepth 100000 in
set_option maxHeartbeats 4000000 in
theorem c_X11_lastOf (l : Launch) (X : XT) (hinj : XInj X nM) (hZ : ZOK (Zm X)) (N : Nat) (S : S2) (a1 : Int) (out : Int × S2) (hf : f_X11_lastOf N S a1 = some out) : MI l X shM nM (Zm X) yX11_lastOf cX11_lastOf 3 (some .int) rmX11_lastOf [.ref (X.2.2 0), .int (iz a1)] S out := by
  refine met_I (own := RX11) (by decide) rfl hinj hZ (Nat.le_of_ble_eq_true rfl) (fun p e s m args below meth c C ls H locs hw hl => ?_)
  unfold f_X11_lastOf at hf
  have hl : lv_has ls 3 [(0, .ref (X.2.2 0)), (1, .int (iz a1))] := hl
  refine lv_aload_n C.1.1 C.1.2.1 dX11_lastOf_0 rfl (lv_at hl 0 rfl) ?_
  refine lv_aload_n C.1.1 C.1.2.1 dX11_lastOf_1 rfl (lv_at hl 0 rfl) ?_
  refine lv_iload_n C.1.1 C.1.2.1 dX11_lastOf_2 rfl (lv_at hl 1 rfl) ?_
  refine r_callI (As := [.int (iz a1)]) (rest := [.ref (X.2.2 0)]) (rm := rmX11_placeOf) C hw shM_0 ltM_0 cO11 tw7_41 tw7_43 tp_80 tw1_12 tw7_44 hd_X11_placeOf rfl ⟨⟨rfl, rfl⟩, Nat.le_of_ble_eq_true rfl, Nat.le_of_ble_eq_true rfl⟩ hl.1 rfl (Nat.le_of_ble_eq_true rfl) dX11_lastOf_3 hf (fun o ho => c_X11_placeOf l X hinj hZ N S a1 o ho) (fun v3 S3 H locs hf hw => ?_)
  refine r_iconst (v := 1) C dX11_lastOf_6 ?_
  refine r_callI (As := [.int (iz v3), .int (iz 1)]) (rest := []) (rm := rmX11_beside) C hw shM_0 ltM_0 cO11 tw7_194 tw7_196 tp_100 tw1_12 tw7_197 hd_X11_beside rfl ⟨⟨rfl, rfl⟩, Nat.le_of_ble_eq_true rfl, Nat.le_of_ble_eq_true rfl⟩ hl.1 rfl (Nat.le_of_ble_eq_true rfl) dX11_lastOf_7 hf (fun o ho => c_X11_beside l X hinj hZ N S3 v3 1 o ho) (fun v7 S7 H locs hf hw => ?_)
  refine lv_istore_n (lv' := [(2, .int (iz v7)), (0, .ref (X.2.2 0)), (1, .int (iz a1))]) C.1.1 C.1.2.1 dX11_lastOf_10 rfl hl (by decide) rfl (fun ls hl => ?_)
  refine lv_iload_n C.1.1 C.1.2.1 dX11_lastOf_11 rfl (lv_at hl 0 rfl) ?_
  refine r_iconst (v := (-1)) C dX11_lastOf_12 ?_
  refine r_icmp_ne C (tgt := 25) dX11_lastOf_13 (by decide) hf (fun hf => ?_) (fun hf => ?_)
  · refine lv_aload_n C.1.1 C.1.2.1 dX11_lastOf_25 rfl (lv_at hl 1 rfl) ?_
    refine lv_aload_n C.1.1 C.1.2.1 dX11_lastOf_26 rfl (lv_at hl 1 rfl) ?_
    refine lv_iload_n C.1.1 C.1.2.1 dX11_lastOf_27 rfl (lv_at hl 2 rfl) ?_
    refine r_callI (As := [.int (iz a1)]) (rest := [.ref (X.2.2 0)]) (rm := rmX11_placeOf) C hw shM_0 ltM_0 cO11 tw7_41 tw7_43 tp_80 tw1_12 tw7_44 hd_X11_placeOf rfl ⟨⟨rfl, rfl⟩, Nat.le_of_ble_eq_true rfl, Nat.le_of_ble_eq_true rfl⟩ hl.1 rfl (Nat.le_of_ble_eq_true rfl) dX11_lastOf_28 hf (fun o ho => c_X11_placeOf l X hinj hZ N S7 a1 o ho) (fun v28 S28 H locs hf hw => ?_)
    refine lv_aload_n C.1.1 C.1.2.1 dX11_lastOf_31 rfl (lv_at hl 1 rfl) ?_
    refine lv_iload_n C.1.1 C.1.2.1 dX11_lastOf_32 rfl (lv_at hl 0 rfl) ?_
    refine r_callI (As := [.int (iz v7)]) (rest := [.int (iz v28), .ref (X.2.2 0)]) (rm := rmX11_placeOf) C hw shM_0 ltM_0 cO11 tw7_41 tw7_43 tp_80 tw1_12 tw7_44 hd_X11_placeOf rfl ⟨⟨rfl, rfl⟩, Nat.le_of_ble_eq_true rfl, Nat.le_of_ble_eq_true rfl⟩ hl.1 rfl (Nat.le_of_ble_eq_true rfl) dX11_lastOf_33 hf (fun o ho => c_X11_placeOf l X hinj hZ N S28 v7 o ho) (fun v33 S33 H locs hf hw => ?_)
    refine r_callI (As := [.int (iz v28), .int (iz v33)]) (rest := []) (rm := rmX11_lowBetween) C hw shM_0 ltM_0 cO11 tw7_198 tw7_200 tp_101 tw1_12 tw7_201 hd_X11_lowBetween rfl ⟨⟨rfl, rfl⟩, Nat.le_of_ble_eq_true rfl, Nat.le_of_ble_eq_true rfl⟩ hl.1 rfl (Nat.le_of_ble_eq_true rfl) dX11_lastOf_36 hf (fun o ho => c_X11_lowBetween l X hinj hZ N S33 v28 v33 o ho) (fun v36 S36 H locs hf hw => ?_)
    refine r_iconst (v := 1) C dX11_lastOf_39 ?_
    refine r_isub C dX11_lastOf_40 ?_
    exact r_retI C hw dX11_lastOf_41 hf
  · refine lv_aload_n C.1.1 C.1.2.1 dX11_lastOf_16 rfl (lv_at hl 1 rfl) ?_
    refine r_callI (As := []) (rest := []) (rm := rmX11_many) C hw shM_0 ltM_0 cO11 tw6_192 tw6_194 tp_60 tw1_12 tw6_195 hd_X11_many rfl ⟨⟨rfl, rfl⟩, Nat.le_of_ble_eq_true rfl, Nat.le_of_ble_eq_true rfl⟩ hl.1 rfl (Nat.le_of_ble_eq_true rfl) dX11_lastOf_17 hf (fun o ho => c_X11_many l X hinj hZ N S7 o ho) (fun v17 S17 H locs hf hw => ?_)
    refine r_iconst (v := 1) C dX11_lastOf_20 ?_
    refine r_isub C dX11_lastOf_21 ?_
    refine lv_goto (tgt := 41) C.1.1 C.1.2.1 dX11_lastOf_22 (by decide) ?_
    exact r_retI C hw dX11_lastOf_41 hf
def f_X11_areaOf_8 : Nat → Int → Int → Int → S2 → Option (Int × S2)
  | 0, _, _, _, _ => none
  | N + 1, x1, x2, x3, S => bI (f_X11_lastOf N S x1) fun v11 S11 => cI x3 v11 (if v11 < x3 then rI x2 S11 else aI S11 8 231 x3 fun v24 => aI S11 18 48 x1 fun v34 => aI S11 15 48 v34 fun v35 => mxI 0 (v24 - v35) fun v37 => (f_X11_areaOf_8 N) x1 (x2 + v37) (x3 + 1) S11)
def f_X11_areaOf (N : Nat) (S : S2) (a1 : Int) : Option (Int × S2) := bI (f_X11_firstOf N S a1) fun v4 S4 => (f_X11_areaOf_8 N) a1 0 v4 S4
abbrev rmX11_areaOf : Room := { frames := 3, cells := 0, slots := 0, locals := 68 }
theorem hd_X11_areaOf : yX11_areaOf.cls ≠ "java/lang/invoke/MethodHandle" ∧ yX11_areaOf.cls ≠ "java/lang/invoke/VarHandle" ∧ (parseMethodDescriptor yX11_areaOf.desc).map (fun d => d.parameters.length) = some 1 := by decide +kernel
set_option maxRecDepth 100000 in
set_option maxHeartbeats 4000000 in
theorem w_X11_areaOf_8 {p : Program} (l : Launch) {e : Env} {s : State} {m : MethodId} {args : Array Value} {below : List Frame} {meth : Method} {c : Code} {X : XT} (hinj : XInj X nM) (hZ : ZOK (Zm X)) (C : CX p s m args meth c cX11_areaOf 4 RX11 (some .int) X nM (Zm X)) (out : Int × S2) : ∀ (N : Nat), ∀ (x1 : Int) (x2 : Int) (x3 : Int) (S : S2) (H : Heap) (locs : List Loc) (ls : Array Slot), f_X11_areaOf_8 N x1 x2 x3 S = some out → WH X shM nM s S H locs → lv_has ls 4 [(0, .ref (X.2.2 0)), (1, .int (iz x1)), (2, .int (iz x2)), (3, .int (iz x3))] → W p l e rmX11_areaOf s m args below meth c H locs 0 0 (QI X shM nM s args below out) (F0 m 8 ls []) := by
  intro N
  induction N with
  | zero => intro x1 x2 x3 S H locs ls hf hw hl; cases hf
  | succ N ih =>
    intro x1 x2 x3 S H locs ls hf hw hl
    rw [f_X11_areaOf_8.eq_2] at hf
    refine lv_iload_n C.1.1 C.1.2.1 dX11_areaOf_8 rfl (lv_at hl 3 rfl) ?_
    refine lv_aload_n C.1.1 C.1.2.1 dX11_areaOf_9 rfl (lv_at hl 0 rfl) ?_
    refine lv_iload_n C.1.1 C.1.2.1 dX11_areaOf_10 rfl (lv_at hl 1 rfl) ?_
    refine r_callI (As := [.int (iz x1)]) (rest := [.int (iz x3)]) (rm := rmX11_lastOf) C hw shM_0 ltM_0 cO11 tw7_202 tw7_204 tp_102 tw1_12 tw7_205 hd_X11_lastOf rfl ⟨⟨rfl, rfl⟩, Nat.le_of_ble_eq_true rfl, Nat.le_of_ble_eq_true rfl⟩ hl.1 rfl (Nat.le_of_ble_eq_true rfl) dX11_areaOf_11 hf (fun o ho => c_X11_lastOf l X hinj hZ N S x1 o ho) (fun v11 S11 H locs hf hw => ?_)
    refine r_icmp_gt C (tgt := 48) dX11_areaOf_14 (by decide) hf (fun hf => ?_) (fun hf => ?_)
    · refine lv_iload_n C.1.1 C.1.2.1 dX11_areaOf_48 rfl (lv_at hl 2 rfl) ?_
      exact r_retI C hw dX11_areaOf_49 hf
    · refine lv_iload_n C.1.1 C.1.2.1 dX11_areaOf_17 rfl (lv_at hl 2 rfl) ?_
      refine r_iconst (v := 0) C dX11_areaOf_18 ?_
      refine lv_aload_n C.1.1 C.1.2.1 dX11_areaOf_19 rfl (lv_at hl 0 rfl) ?_
      refine r_getR (k := 22) C hw shM_0 ltM_0 cO11 rfl (by decide) tw5_166 rfl dX11_areaOf_20 ?_
      refine lv_iload_n C.1.1 C.1.2.1 dX11_areaOf_23 rfl (lv_at hl 3 rfl) ?_
      refine r_iald C hw shM_8 ltM_8 (Nat.le_of_ble_eq_true rfl) dX11_areaOf_24 hf (fun v24 hf => ?_)
      refine lv_aload_n C.1.1 C.1.2.1 dX11_areaOf_25 rfl (lv_at hl 0 rfl) ?_
      refine r_getR (k := 32) C hw shM_0 ltM_0 cO11 rfl (by decide) tw5_176 rfl dX11_areaOf_26 ?_
      refine lv_aload_n C.1.1 C.1.2.1 dX11_areaOf_29 rfl (lv_at hl 0 rfl) ?_
      refine r_getR (k := 36) C hw shM_0 ltM_0 cO11 rfl (by decide) tw5_180 rfl dX11_areaOf_30 ?_
      refine lv_iload_n C.1.1 C.1.2.1 dX11_areaOf_33 rfl (lv_at hl 1 rfl) ?_
      refine r_iald C hw shM_18 ltM_18 (Nat.le_of_ble_eq_true rfl) dX11_areaOf_34 hf (fun v34 hf => ?_)
      refine r_iald C hw shM_15 ltM_15 (Nat.le_of_ble_eq_true rfl) dX11_areaOf_35 hf (fun v35 hf => ?_)
      refine r_isub C dX11_areaOf_36 ?_
      refine r_max C tw6_232 tw3_86 tw1_18 tw3_87 hl.1 (Nat.le_of_ble_eq_true rfl) (Nat.le_of_ble_eq_true rfl) dX11_areaOf_37 hf (fun v37 hf => ?_)
      refine r_iadd C dX11_areaOf_40 ?_
      refine lv_istore_n (lv' := [(2, .int (iz (x2 + v37))), (0, .ref (X.2.2 0)), (1, .int (iz x1)), (3, .int (iz x3))]) C.1.1 C.1.2.1 dX11_areaOf_41 rfl hl (by decide) rfl (fun ls hl => ?_)
      refine lv_iinc (v := iz (x3 + 1)) (lv' := [(3, .int (iz (x3 + 1))), (2, .int (iz (x2 + v37))), (0, .ref (X.2.2 0)), (1, .int (iz x1))]) C.1.1 C.1.2.1 dX11_areaOf_42 hl (k := 3) rfl (iz_add _ _) (by decide) rfl (fun ls hl => ?_)
      refine lv_goto (tgt := 8) C.1.1 C.1.2.1 dX11_areaOf_45 (by decide) ?_
      exact ih x1 (x2 + v37) (x3 + 1) S11 H locs ls hf hw (lv_sub hl [2, 3, 1, 0] rfl)
set_option maxRecDepth 100000 in
set_option maxHeartbeats 4000000 in
theorem c_X11_areaOf (l : Launch) (X : XT) (hinj : XInj X nM) (hZ : ZOK (Zm X)) (N : Nat) (S : S2) (a1 : Int) (out : Int × S2) (hf : f_X11_areaOf N S a1 = some out) : MI l X shM nM (Zm X) yX11_areaOf cX11_areaOf 4 (some .int) rmX11_areaOf [.ref (X.2.2 0), .int (iz a1)] S out := by
  refine met_I (own := RX11) (by decide) rfl hinj hZ (Nat.le_of_ble_eq_true rfl) (fun p e s m args below meth c C ls H locs hw hl => ?_)
  unfold f_X11_areaOf at hf
  have hl : lv_has ls 4 [(0, .ref (X.2.2 0)), (1, .int (iz a1))] := hl
  refine r_iconst (v := 0) C dX11_areaOf_0 ?_
  refine lv_istore_n (lv' := [(2, .int (iz 0)), (0, .ref (X.2.2 0)), (1, .int (iz a1))]) C.1.1 C.1.2.1 dX11_areaOf_1 rfl hl (by decide) rfl (fun ls hl => ?_)
  refine lv_aload_n C.1.1 C.1.2.1 dX11_areaOf_2 rfl (lv_at hl 1 rfl) ?_
  refine lv_iload_n C.1.1 C.1.2.1 dX11_areaOf_3 rfl (lv_at hl 2 rfl) ?_
  refine r_callI (As := [.int (iz a1)]) (rest := []) (rm := rmX11_firstOf) C hw shM_0 ltM_0 cO11 tw7_190 tw7_192 tp_99 tw1_12 tw7_193 hd_X11_firstOf rfl ⟨⟨rfl, rfl⟩, Nat.le_of_ble_eq_true rfl, Nat.le_of_ble_eq_true rfl⟩ hl.1 rfl (Nat.le_of_ble_eq_true rfl) dX11_areaOf_4 hf (fun o ho => c_X11_firstOf l X hinj hZ N S a1 o ho) (fun v4 S4 H locs hf hw => ?_)
  refine lv_istore_n (lv' := [(3, .int (iz v4)), (2, .int (iz 0)), (0, .ref (X.2.2 0)), (1, .int (iz a1))]) C.1.1 C.1.2.1 dX11_areaOf_7 rfl hl (by decide) rfl (fun ls hl => ?_)
  exact (w_X11_areaOf_8 l hinj hZ C out N) a1 0 v4 S4 H locs ls hf hw (lv_sub hl [2, 3, 1, 0] rfl)
def f_X11_around_37 : Nat → Int → Int → Int → S2 → Option (Int × S2)
  | 0, _, _, _, _ => none
  | N + 1, x2, x3, x4, S => bI (f_X11_many N S) fun v40 S40 => cI x4 v40 (if v40 ≤ x4 then rI x3 S40 else aI S40 8 231 x4 fun v52 => cI v52 x2 (if v52 < x2 then rI x3 S40 else (f_X11_around_37 N) x2 (x3 + 1) (x4 + 1) S40))
def f_X11_around_32 (N : Nat) (x1 : Int) (x2 : Int) (x3 : Int) (S : S2) : Option (Int × S2) := (f_X11_around_37 N) x2 x3 (x1 + 1) S
def f_X11_around_7 (k32 : Int → Int → Int → S2 → Option (Int × S2)) : Nat → Int → Int → Int → Int → S2 → Option (Int × S2)
  | 0, _, _, _, _, _ => none
  | N + 1, x1, x2, x3, x4, S => cI x4 0 (if x4 < 0 then k32 x1 x2 x3 S else aI S 8 231 x4 fun v18 => cI v18 x2 (if v18 < x2 then k32 x1 x2 x3 S else (f_X11_around_7 k32 N) x1 x2 (x3 + 1) (x4 + (-1)) S))
def f_X11_around (N : Nat) (S : S2) (a1 : Int) (a2 : Int) : Option (Int × S2) := (f_X11_around_7 (f_X11_around_32 N) N) a1 a2 1 (a1 - 1) S
abbrev rmX11_around : Room := { frames := 1, cells := 0, slots := 0, locals := 20 }
theorem hd_X11_around : yX11_around.cls ≠ "java/lang/invoke/MethodHandle" ∧ yX11_around.cls ≠ "java/lang/invoke/VarHandle" ∧ (parseMethodDescriptor yX11_around.desc).map (fun d => d.parameters.length) = some 2 := by decide +kernel
set_option maxRecDepth 100000 in
set_option maxHeartbeats 4000000 in
theorem w_X11_around_37 {p : Program} (l : Launch) {e : Env} {s : State} {m : MethodId} {args : Array Value} {below : List Frame} {meth : Method} {c : Code} {X : XT} (hinj : XInj X nM) (hZ : ZOK (Zm X)) (C : CX p s m args meth c cX11_around 5 RX11 (some .int) X nM (Zm X)) (out : Int × S2) : ∀ (N : Nat), ∀ (x2 : Int) (x3 : Int) (x4 : Int) (S : S2) (H : Heap) (locs : List Loc) (ls : Array Slot), f_X11_around_37 N x2 x3 x4 S = some out → WH X shM nM s S H locs → lv_has ls 5 [(0, .ref (X.2.2 0)), (2, .int (iz x2)), (3, .int (iz x3)), (4, .int (iz x4))] → W p l e rmX11_around s m args below meth c H locs 0 0 (QI X shM nM s args below out) (F0 m 37 ls []) := by
  intro N
  induction N with
  | zero => intro x2 x3 x4 S H locs ls hf hw hl; cases hf
  | succ N ih =>
    intro x2 x3 x4 S H locs ls hf hw hl
    rw [f_X11_around_37.eq_2] at hf
    refine lv_iload C.1.1 C.1.2.1 dX11_around_37 (lv_at hl 3 rfl) ?_
    refine lv_aload_n C.1.1 C.1.2.1 dX11_around_39 rfl (lv_at hl 0 rfl) ?_
    refine r_callI (As := []) (rest := [.int (iz x4)]) (rm := rmX11_many) C hw shM_0 ltM_0 cO11 tw6_192 tw6_194 tp_60 tw1_12 tw6_195 hd_X11_many rfl ⟨⟨rfl, rfl⟩, Nat.le_of_ble_eq_true rfl, Nat.le_of_ble_eq_true rfl⟩ hl.1 rfl (Nat.le_of_ble_eq_true rfl) dX11_around_40 hf (fun o ho => c_X11_many l X hinj hZ N S o ho) (fun v40 S40 H locs hf hw => ?_)
    refine r_icmp_ge C (tgt := 66) dX11_around_43 (by decide) hf (fun hf => ?_) (fun hf => ?_)
    · refine lv_iload_n C.1.1 C.1.2.1 dX11_around_66 rfl (lv_at hl 2 rfl) ?_
      exact r_retI C hw dX11_around_67 hf
    · refine lv_aload_n C.1.1 C.1.2.1 dX11_around_46 rfl (lv_at hl 0 rfl) ?_
      refine r_getR (k := 22) C hw shM_0 ltM_0 cO11 rfl (by decide) tw5_166 rfl dX11_around_47 ?_
      refine lv_iload C.1.1 C.1.2.1 dX11_around_50 (lv_at hl 3 rfl) ?_
      refine r_iald C hw shM_8 ltM_8 (Nat.le_of_ble_eq_true rfl) dX11_around_52 hf (fun v52 hf => ?_)
      refine lv_iload_n C.1.1 C.1.2.1 dX11_around_53 rfl (lv_at hl 1 rfl) ?_
      refine r_icmp_lt C (tgt := 66) dX11_around_54 (by decide) hf (fun hf => ?_) (fun hf => ?_)
      · refine lv_iload_n C.1.1 C.1.2.1 dX11_around_66 rfl (lv_at hl 2 rfl) ?_
        exact r_retI C hw dX11_around_67 hf
      · refine lv_iinc (v := iz (x3 + 1)) (lv' := [(3, .int (iz (x3 + 1))), (0, .ref (X.2.2 0)), (2, .int (iz x2)), (4, .int (iz x4))]) C.1.1 C.1.2.1 dX11_around_57 hl (k := 2) rfl (iz_add _ _) (by decide) rfl (fun ls hl => ?_)
        refine lv_iinc (v := iz (x4 + 1)) (lv' := [(4, .int (iz (x4 + 1))), (3, .int (iz (x3 + 1))), (0, .ref (X.2.2 0)), (2, .int (iz x2))]) C.1.1 C.1.2.1 dX11_around_60 hl (k := 3) rfl (iz_add _ _) (by decide) rfl (fun ls hl => ?_)
        refine lv_goto (tgt := 37) C.1.1 C.1.2.1 dX11_around_63 (by decide) ?_
        exact ih x2 (x3 + 1) (x4 + 1) S40 H locs ls hf hw (lv_sub hl [2, 3, 1, 0] rfl)
set_option maxRecDepth 100000 in
set_option maxHeartbeats 4000000 in
theorem w_X11_around_32 {p : Program} (l : Launch) {e : Env} {s : State} {m : MethodId} {args : Array Value} {below : List Frame} {meth : Method} {c : Code} {X : XT} (hinj : XInj X nM) (hZ : ZOK (Zm X)) (C : CX p s m args meth c cX11_around 5 RX11 (some .int) X nM (Zm X)) (out : Int × S2) : ∀ (N : Nat), ∀ (x1 : Int) (x2 : Int) (x3 : Int) (S : S2) (H : Heap) (locs : List Loc) (ls : Array Slot), f_X11_around_32 N x1 x2 x3 S = some out → WH X shM nM s S H locs → lv_has ls 5 [(0, .ref (X.2.2 0)), (1, .int (iz x1)), (2, .int (iz x2)), (3, .int (iz x3))] → W p l e rmX11_around s m args below meth c H locs 0 0 (QI X shM nM s args below out) (F0 m 32 ls []) := by
  intro N x1 x2 x3 S H locs ls hf hw hl
  unfold f_X11_around_32 at hf
  refine lv_iload_n C.1.1 C.1.2.1 dX11_around_32 rfl (lv_at hl 1 rfl) ?_
  refine r_iconst (v := 1) C dX11_around_33 ?_
  refine r_iadd C dX11_around_34 ?_
  refine lv_istore (lv' := [(4, .int (iz (x1 + 1))), (0, .ref (X.2.2 0)), (1, .int (iz x1)), (2, .int (iz x2)), (3, .int (iz x3))]) C.1.1 C.1.2.1 dX11_around_35 hl (by decide) rfl (fun ls hl => ?_)
  exact (w_X11_around_37 l hinj hZ C out N) x2 x3 (x1 + 1) S H locs ls hf hw (lv_sub hl [1, 3, 4, 0] rfl)
set_option maxRecDepth 100000 in
set_option maxHeartbeats 4000000 in
theorem w_X11_around_7 {p : Program} (l : Launch) {e : Env} {s : State} {m : MethodId} {args : Array Value} {below : List Frame} {meth : Method} {c : Code} {X : XT} (hinj : XInj X nM) (hZ : ZOK (Zm X)) (C : CX p s m args meth c cX11_around 5 RX11 (some .int) X nM (Zm X)) (out : Int × S2) (k32 : Int → Int → Int → S2 → Option (Int × S2)) (hk32 : ∀ (x1 : Int) (x2 : Int) (x3 : Int) (S : S2) (H : Heap) (locs : List Loc) (ls : Array Slot), k32 x1 x2 x3 S = some out → WH X shM nM s S H locs → lv_has ls 5 [(0, .ref (X.2.2 0)), (1, .int (iz x1)), (2, .int (iz x2)), (3, .int (iz x3))] → W p l e rmX11_around s m args below meth c H locs 0 0 (QI X shM nM s args below out) (F0 m 32 ls [])) : ∀ (N : Nat), ∀ (x1 : Int) (x2 : Int) (x3 : Int) (x4 : Int) (S : S2) (H : Heap) (locs : List Loc) (ls : Array Slot), f_X11_around_7 k32 N x1 x2 x3 x4 S = some out → WH X shM nM s S H locs → lv_has ls 5 [(0, .ref (X.2.2 0)), (1, .int (iz x1)), (2, .int (iz x2)), (3, .int (iz x3)), (4, .int (iz x4))] → W p l e rmX11_around s m args below meth c H locs 0 0 (QI X shM nM s args below out) (F0 m 7 ls []) := by
  intro N
  induction N with
  | zero => intro x1 x2 x3 x4 S H locs ls hf hw hl; cases hf
  | succ N ih =>
    intro x1 x2 x3 x4 S H locs ls hf hw hl
    rw [f_X11_around_7.eq_2] at hf
    refine lv_iload C.1.1 C.1.2.1 dX11_around_7 (lv_at hl 4 rfl) ?_
    refine r_if_lt C (tgt := 32) dX11_around_9 (by decide) hf (fun hf => ?_) (fun hf => ?_)
    · exact hk32 x1 x2 x3 S H locs ls hf hw (lv_sub hl [0, 1, 2, 3] rfl)
    · refine lv_aload_n C.1.1 C.1.2.1 dX11_around_12 rfl (lv_at hl 0 rfl) ?_
      refine r_getR (k := 22) C hw shM_0 ltM_0 cO11 rfl (by decide) tw5_166 rfl dX11_around_13 ?_
      refine lv_iload C.1.1 C.1.2.1 dX11_around_16 (lv_at hl 4 rfl) ?_
      refine r_iald C hw shM_8 ltM_8 (Nat.le_of_ble_eq_true rfl) dX11_around_18 hf (fun v18 hf => ?_)
      refine lv_iload_n C.1.1 C.1.2.1 dX11_around_19 rfl (lv_at hl 2 rfl) ?_
      refine r_icmp_lt C (tgt := 32) dX11_around_20 (by decide) hf (fun hf => ?_) (fun hf => ?_)
      · exact hk32 x1 x2 x3 S H locs ls hf hw (lv_sub hl [0, 1, 2, 3] rfl)
      · refine lv_iinc (v := iz (x3 + 1)) (lv' := [(3, .int (iz (x3 + 1))), (0, .ref (X.2.2 0)), (1, .int (iz x1)), (2, .int (iz x2)), (4, .int (iz x4))]) C.1.1 C.1.2.1 dX11_around_23 hl (k := 3) rfl (iz_add _ _) (by decide) rfl (fun ls hl => ?_)
        refine lv_iinc (v := iz (x4 + (-1))) (lv' := [(4, .int (iz (x4 + (-1)))), (3, .int (iz (x3 + 1))), (0, .ref (X.2.2 0)), (1, .int (iz x1)), (2, .int (iz x2))]) C.1.1 C.1.2.1 dX11_around_26 hl (k := 4) rfl (iz_add _ _) (by decide) rfl (fun ls hl => ?_)
        refine lv_goto (tgt := 7) C.1.1 C.1.2.1 dX11_around_29 (by decide) ?_
        exact ih x1 x2 (x3 + 1) (x4 + (-1)) S H locs ls hf hw (lv_sub hl [2, 3, 4, 1, 0] rfl)
set_option maxRecDepth 100000 in
set_option maxHeartbeats 4000000 in
theorem c_X11_around (l : Launch) (X : XT) (hinj : XInj X nM) (hZ : ZOK (Zm X)) (N : Nat) (S : S2) (a1 : Int) (a2 : Int) (out : Int × S2) (hf : f_X11_around N S a1 a2 = some out) : MI l X shM nM (Zm X) yX11_around cX11_around 5 (some .int) rmX11_around [.ref (X.2.2 0), .int (iz a1), .int (iz a2)] S out := by
  refine met_I (own := RX11) (by decide) rfl hinj hZ (Nat.le_of_ble_eq_true rfl) (fun p e s m args below meth c C ls H locs hw hl => ?_)
  unfold f_X11_around at hf
  have hl : lv_has ls 5 [(0, .ref (X.2.2 0)), (1, .int (iz a1)), (2, .int (iz a2))] := hl
  refine r_iconst (v := 1) C dX11_around_0 ?_
  refine lv_istore_n (lv' := [(3, .int (iz 1)), (0, .ref (X.2.2 0)), (1, .int (iz a1)), (2, .int (iz a2))]) C.1.1 C.1.2.1 dX11_around_1 rfl hl (by decide) rfl (fun ls hl => ?_)
  refine lv_iload_n C.1.1 C.1.2.1 dX11_around_2 rfl (lv_at hl 2 rfl) ?_
  refine r_iconst (v := 1) C dX11_around_3 ?_
  refine r_isub C dX11_around_4 ?_
  refine lv_istore (lv' := [(4, .int (iz (a1 - 1))), (3, .int (iz 1)), (0, .ref (X.2.2 0)), (1, .int (iz a1)), (2, .int (iz a2))]) C.1.1 C.1.2.1 dX11_around_5 hl (by decide) rfl (fun ls hl => ?_)
  exact (w_X11_around_7 l hinj hZ C out (f_X11_around_32 N) (w_X11_around_32 l hinj hZ C out N) N) a1 a2 1 (a1 - 1) S H locs ls hf hw (lv_sub hl [2, 3, 4, 1, 0] rfl)
def f_X11_widthOf (N : Nat) (S : S2) (a1 : Int) : Option (Int × S2) := bI (f_X11_placeOf N S a1) fun v3 S3 => bI (f_X11_height N S3 a1) fun v8 S8 => bI (f_X11_life N S8 a1) fun v13 S13 => dvI v13 2 fun v17 => bI (f_X11_around N S13 v3 (v8 - v17)) fun v19 S19 => rI v19 S19
abbrev rmX11_widthOf : Room := { frames := 2, cells := 0, slots := 0, locals := 44 }
theorem hd_X11_widthOf : yX11_widthOf.cls ≠ "java/lang/invoke/MethodHandle" ∧ yX11_widthOf.cls ≠ "java/lang/invoke/VarHandle" ∧ (parseMethodDescriptor yX11_widthOf.desc).map (fun d => d.parameters.length) = some 1 := by decide +kernel
set_option maxRecDepth 100000 in
set_option maxHeartbeats 4000000 in
theorem c_X11_widthOf (l : Launch) (X : XT) (hinj : XInj X nM) (hZ : ZOK (Zm X)) (N : Nat) (S : S2) (a1 : Int) (out : Int × S2) (hf : f_X11_widthOf N S a1 = some out) : MI l X shM nM (Zm X) yX11_widthOf cX11_widthOf 2 (some .int) rmX11_widthOf [.ref (X.2.2 0), .int (iz a1)] S out := by
  refine met_I (own := RX11) (by decide) rfl hinj hZ (Nat.le_of_ble_eq_true rfl) (fun p e s m args below meth c C ls H locs hw hl => ?_)
  unfold f_X11_widthOf at hf
  have hl : lv_has ls 2 [(0, .ref (X.2.2 0)), (1, .int (iz a1))] := hl
  refine lv_aload_n C.1.1 C.1.2.1 dX11_widthOf_0 rfl (lv_at hl 0 rfl) ?_
  refine lv_aload_n C.1.1 C.1.2.1 dX11_widthOf_1 rfl (lv_at hl 0 rfl) ?_
  refine lv_iload_n C.1.1 C.1.2.1 dX11_widthOf_2 rfl (lv_at hl 1 rfl) ?_
  refine r_callI (As := [.int (iz a1)]) (rest := [.ref (X.2.2 0)]) (rm := rmX11_placeOf) C hw shM_0 ltM_0 cO11 tw7_41 tw7_43 tp_80 tw1_12 tw7_44 hd_X11_placeOf rfl ⟨⟨rfl, rfl⟩, Nat.le_of_ble_eq_true rfl, Nat.le_of_ble_eq_true rfl⟩ hl.1 rfl (Nat.le_of_ble_eq_true rfl) dX11_widthOf_3 hf (fun o ho => c_X11_placeOf l X hinj hZ N S a1 o ho) (fun v3 S3 H locs hf hw => ?_)
  refine lv_aload_n C.1.1 C.1.2.1 dX11_widthOf_6 rfl (lv_at hl 0 rfl) ?_
  refine lv_iload_n C.1.1 C.1.2.1 dX11_widthOf_7 rfl (lv_at hl 1 rfl) ?_
  refine r_callI (As := [.int (iz a1)]) (rest := [.int (iz v3), .ref (X.2.2 0)]) (rm := rmX11_height) C hw shM_0 ltM_0 cO11 tw7_170 tw7_172 tp_95 tw1_12 tw7_173 hd_X11_height rfl ⟨⟨rfl, rfl⟩, Nat.le_of_ble_eq_true rfl, Nat.le_of_ble_eq_true rfl⟩ hl.1 rfl (Nat.le_of_ble_eq_true rfl) dX11_widthOf_8 hf (fun o ho => c_X11_height l X hinj hZ N S3 a1 o ho) (fun v8 S8 H locs hf hw => ?_)
  refine lv_aload_n C.1.1 C.1.2.1 dX11_widthOf_11 rfl (lv_at hl 0 rfl) ?_
  refine lv_iload_n C.1.1 C.1.2.1 dX11_widthOf_12 rfl (lv_at hl 1 rfl) ?_
  refine r_callI (As := [.int (iz a1)]) (rest := [.int (iz v8), .int (iz v3), .ref (X.2.2 0)]) (rm := rmX11_life) C hw shM_0 ltM_0 cO11 tw7_174 tw7_176 tp_96 tw1_12 tw7_177 hd_X11_life rfl ⟨⟨rfl, rfl⟩, Nat.le_of_ble_eq_true rfl, Nat.le_of_ble_eq_true rfl⟩ hl.1 rfl (Nat.le_of_ble_eq_true rfl) dX11_widthOf_13 hf (fun o ho => c_X11_life l X hinj hZ N S8 a1 o ho) (fun v13 S13 H locs hf hw => ?_)
  refine r_iconst (v := 2) C dX11_widthOf_16 ?_
  refine r_idiv C dX11_widthOf_17 hf (fun v17 hf => ?_)
  refine r_isub C dX11_widthOf_18 ?_
  refine r_callI (As := [.int (iz v3), .int (iz (v8 - v17))]) (rest := []) (rm := rmX11_around) C hw shM_0 ltM_0 cO11 tw7_214 tw7_216 tp_105 tw1_12 tw7_217 hd_X11_around rfl ⟨⟨rfl, rfl⟩, Nat.le_of_ble_eq_true rfl, Nat.le_of_ble_eq_true rfl⟩ hl.1 rfl (Nat.le_of_ble_eq_true rfl) dX11_widthOf_19 hf (fun o ho => c_X11_around l X hinj hZ N S13 v3 (v8 - v17) o ho) (fun v19 S19 H locs hf hw => ?_)
  exact r_retI C hw dX11_widthOf_22 hf
def f_X11_generationOf_9 : Nat → Int → Int → S2 → Option (Int × S2)
  | 0, _, _, _ => none
  | N + 1, x2, x3, S => aI S 16 48 x3 fun v14 => cI v14 (-1) (if v14 = (-1) then rI x2 S else aI S 16 48 x3 fun v27 => (f_X11_generationOf_9 N) (x2 + 1) v27 S)
def f_X11_generationOf (N : Nat) (S : S2) (a1 : Int) : Option (Int × S2) := aI S 18 48 a1 fun v7 => (f_X11_generationOf_9 N) 0 v7 S
abbrev rmX11_generationOf : Room := { frames := 0, cells := 0, slots := 0, locals := 0 }
theorem hd_X11_generationOf : yX11_generationOf.cls ≠ "java/lang/invoke/MethodHandle" ∧ yX11_generationOf.cls ≠ "java/lang/invoke/VarHandle" ∧ (parseMethodDescriptor yX11_generationOf.desc).map (fun d => d.parameters.length) = some 1 := by decide +kernel
set_option maxRecDepth 100000 in
set_option maxHeartbeats 4000000 in
theorem w_X11_generationOf_9 {p : Program} (l : Launch) {e : Env} {s : State} {m : MethodId} {args : Array Value} {below : List Frame} {meth : Method} {c : Code} {X : XT} (hinj : XInj X nM) (hZ : ZOK (Zm X)) (C : CX p s m args meth c cX11_generationOf 4 RX11 (some .int) X nM (Zm X)) (out : Int × S2) : ∀ (N : Nat), ∀ (x2 : Int) (x3 : Int) (S : S2) (H : Heap) (locs : List Loc) (ls : Array Slot), f_X11_generationOf_9 N x2 x3 S = some out → WH X shM nM s S H locs → lv_has ls 4 [(0, .ref (X.2.2 0)), (2, .int (iz x2)), (3, .int (iz x3))] → W p l e rmX11_generationOf s m args below meth c H locs 0 0 (QI X shM nM s args below out) (F0 m 9 ls []) := by
  intro N
  induction N with
  | zero => intro x2 x3 S H locs ls hf hw hl; cases hf
  | succ N ih =>
    intro x2 x3 S H locs ls hf hw hl
    rw [f_X11_generationOf_9.eq_2] at hf
    refine lv_aload_n C.1.1 C.1.2.1 dX11_generationOf_9 rfl (lv_at hl 0 rfl) ?_
    refine r_getR (k := 33) C hw shM_0 ltM_0 cO11 rfl (by decide) tw5_177 rfl dX11_generationOf_10 ?_
    refine lv_iload_n C.1.1 C.1.2.1 dX11_generationOf_13 rfl (lv_at hl 2 rfl) ?_
    refine r_iald C hw shM_16 ltM_16 (Nat.le_of_ble_eq_true rfl) dX11_generationOf_14 hf (fun v14 hf => ?_)
    refine r_iconst (v := (-1)) C dX11_generationOf_15 ?_
    refine r_icmp_eq C (tgt := 32) dX11_generationOf_16 (by decide) hf (fun hf => ?_) (fun hf => ?_)
    · refine lv_iload_n C.1.1 C.1.2.1 dX11_generationOf_32 rfl (lv_at hl 1 rfl) ?_
      exact r_retI C hw dX11_generationOf_33 hf
    · refine lv_iinc (v := iz (x2 + 1)) (lv' := [(2, .int (iz (x2 + 1))), (0, .ref (X.2.2 0)), (3, .int (iz x3))]) C.1.1 C.1.2.1 dX11_generationOf_19 hl (k := 1) rfl (iz_add _ _) (by decide) rfl (fun ls hl => ?_)
      refine lv_aload_n C.1.1 C.1.2.1 dX11_generationOf_22 rfl (lv_at hl 1 rfl) ?_
      refine r_getR (k := 33) C hw shM_0 ltM_0 cO11 rfl (by decide) tw5_177 rfl dX11_generationOf_23 ?_
      refine lv_iload_n C.1.1 C.1.2.1 dX11_generationOf_26 rfl (lv_at hl 2 rfl) ?_
      refine r_iald C hw shM_16 ltM_16 (Nat.le_of_ble_eq_true rfl) dX11_generationOf_27 hf (fun v27 hf => ?_)
      refine lv_istore_n (lv' := [(3, .int (iz v27)), (2, .int (iz (x2 + 1))), (0, .ref (X.2.2 0))]) C.1.1 C.1.2.1 dX11_generationOf_28 rfl hl (by decide) rfl (fun ls hl => ?_)
      refine lv_goto (tgt := 9) C.1.1 C.1.2.1 dX11_generationOf_29 (by decide) ?_
      exact ih (x2 + 1) v27 S H locs ls hf hw (lv_sub hl [2, 1, 0] rfl)
set_option maxRecDepth 100000 in
set_option maxHeartbeats 4000000 in
theorem c_X11_generationOf (l : Launch) (X : XT) (hinj : XInj X nM) (hZ : ZOK (Zm X)) (N : Nat) (S : S2) (a1 : Int) (out : Int × S2) (hf : f_X11_generationOf N S a1 = some out) : MI l X shM nM (Zm X) yX11_generationOf cX11_generationOf 4 (some .int) rmX11_generationOf [.ref (X.2.2 0), .int (iz a1)] S out := by
  refine met_I (own := RX11) (by decide) rfl hinj hZ (Nat.le_of_ble_eq_true rfl) (fun p e s m args below meth c C ls H locs hw hl => ?_)
  unfold f_X11_generationOf at hf
  have hl : lv_has ls 4 [(0, .ref (X.2.2 0)), (1, .int (iz a1))] := hl
  refine r_iconst (v := 0) C dX11_generationOf_0 ?_
  refine lv_istore_n (lv' := [(2, .int (iz 0)), (0, .ref (X.2.2 0)), (1, .int (iz a1))]) C.1.1 C.1.2.1 dX11_generationOf_1 rfl hl (by decide) rfl (fun ls hl => ?_)
  refine lv_aload_n C.1.1 C.1.2.1 dX11_generationOf_2 rfl (lv_at hl 1 rfl) ?_
  refine r_getR (k := 36) C hw shM_0 ltM_0 cO11 rfl (by decide) tw5_180 rfl dX11_generationOf_3 ?_
  refine lv_iload_n C.1.1 C.1.2.1 dX11_generationOf_6 rfl (lv_at hl 2 rfl) ?_
  refine r_iald C hw shM_18 ltM_18 (Nat.le_of_ble_eq_true rfl) dX11_generationOf_7 hf (fun v7 hf => ?_)
  refine lv_istore_n (lv' := [(3, .int (iz v7)), (2, .int (iz 0)), (0, .ref (X.2.2 0)), (1, .int (iz a1))]) C.1.1 C.1.2.1 dX11_generationOf_8 rfl hl (by decide) rfl (fun ls hl => ?_)
  exact (w_X11_generationOf_9 l hinj hZ C out N) 0 v7 S H locs ls hf hw (lv_sub hl [2, 1, 0] rfl)
def f_X11_keepWas_2 : Nat → Int → S2 → Option (S2)
  | 0, _, _ => none
  | N + 1, x1, S => cI x1 48 (if 48 ≤ x1 then rV S else aI S 8 231 x1 fun v18 => sI S 22 48 x1 v18 fun S19 => (f_X11_keepWas_2 N) (x1 + 1) S19)
def f_X11_keepWas (N : Nat) (S : S2) : Option (S2) := (f_X11_keepWas_2 N) 0 S
abbrev rmX11_keepWas : Room := { frames := 0, cells := 0, slots := 0, locals := 0 }
theorem hd_X11_keepWas : yX11_keepWas.cls ≠ "java/lang/invoke/MethodHandle" ∧ yX11_keepWas.cls ≠ "java/lang/invoke/VarHandle" ∧ (parseMethodDescriptor yX11_keepWas.desc).map (fun d => d.parameters.length) = some 0 := by decide +kernel
set_option maxRecDepth 100000 in
set_option maxHeartbeats 4000000 in
theorem w_X11_keepWas_2 {p : Program} (l : Launch) {e : Env} {s : State} {m : MethodId} {args : Array Value} {below : List Frame} {meth : Method} {c : Code} {X : XT} (hinj : XInj X nM) (hZ : ZOK (Zm X)) (C : CX p s m args meth c cX11_keepWas 2 RX11 none X nM (Zm X)) (out : S2) : ∀ (N : Nat), ∀ (x1 : Int) (S : S2) (H : Heap) (locs : List Loc) (ls : Array Slot), f_X11_keepWas_2 N x1 S = some out → WH X shM nM s S H locs → lv_has ls 2 [(0, .ref (X.2.2 0)), (1, .int (iz x1))] → W p l e rmX11_keepWas s m args below meth c H locs 0 0 (QV X shM nM s args below out) (F0 m 2 ls []) := by
  intro N
  induction N with
  | zero => intro x1 S H locs ls hf hw hl; cases hf
  | succ N ih =>
    intro x1 S H locs ls hf hw hl
    rw [f_X11_keepWas_2.eq_2] at hf
    refine lv_iload_n C.1.1 C.1.2.1 dX11_keepWas_2 rfl (lv_at hl 1 rfl) ?_
    refine r_bipush (v := 48) C dX11_keepWas_3 (by decide) ?_
    refine r_icmp_ge C (tgt := 26) dX11_keepWas_5 (by decide) hf (fun hf => ?_) (fun hf => ?_)
    · exact r_retV C hw dX11_keepWas_26 hf
    · refine lv_aload_n C.1.1 C.1.2.1 dX11_keepWas_8 rfl (lv_at hl 0 rfl) ?_
      refine r_getR (k := 42) C hw shM_0 ltM_0 cO11 rfl (by decide) tw5_186 rfl dX11_keepWas_9 ?_
      refine lv_iload_n C.1.1 C.1.2.1 dX11_keepWas_12 rfl (lv_at hl 1 rfl) ?_
      refine lv_aload_n C.1.1 C.1.2.1 dX11_keepWas_13 rfl (lv_at hl 0 rfl) ?_
      refine r_getR (k := 22) C hw shM_0 ltM_0 cO11 rfl (by decide) tw5_166 rfl dX11_keepWas_14 ?_
      refine lv_iload_n C.1.1 C.1.2.1 dX11_keepWas_17 rfl (lv_at hl 1 rfl) ?_
      refine r_iald C hw shM_8 ltM_8 (Nat.le_of_ble_eq_true rfl) dX11_keepWas_18 hf (fun v18 hf => ?_)
      refine r_iast C hw shM_22 ltM_22 (Nat.le_of_ble_eq_true rfl) dX11_keepWas_19 hf (fun S19 H locs hf hw => ?_)
      refine lv_iinc (v := iz (x1 + 1)) (lv' := [(1, .int (iz (x1 + 1))), (0, .ref (X.2.2 0))]) C.1.1 C.1.2.1 dX11_keepWas_20 hl (k := 1) rfl (iz_add _ _) (by decide) rfl (fun ls hl => ?_)
      refine lv_goto (tgt := 2) C.1.1 C.1.2.1 dX11_keepWas_23 (by decide) ?_
      exact ih (x1 + 1) S19 H locs ls hf hw (lv_sub hl [1, 0] rfl)
set_option maxRecDepth 100000 in
set_option maxHeartbeats 4000000 in
theorem c_X11_keepWas (l : Launch) (X : XT) (hinj : XInj X nM) (hZ : ZOK (Zm X)) (N : Nat) (S : S2) (out : S2) (hf : f_X11_keepWas N S = some out) : MV l X shM nM (Zm X) yX11_keepWas cX11_keepWas 2 none rmX11_keepWas [.ref (X.2.2 0)] S out := by
  refine met_V (own := RX11) (by decide) rfl hinj hZ (Nat.le_of_ble_eq_true rfl) (fun p e s m args below meth c C ls H locs hw hl => ?_)
  unfold f_X11_keepWas at hf
  have hl : lv_has ls 2 [(0, .ref (X.2.2 0))] := hl
  refine r_iconst (v := 0) C dX11_keepWas_0 ?_
  refine lv_istore_n (lv' := [(1, .int (iz 0)), (0, .ref (X.2.2 0))]) C.1.1 C.1.2.1 dX11_keepWas_1 rfl hl (by decide) rfl (fun ls hl => ?_)
  exact (w_X11_keepWas_2 l hinj hZ C out N) 0 S H locs ls hf hw (lv_sub hl [1, 0] rfl)
def f_X11_middle (N : Nat) (S : S2) (a0 : Int) (a1 : Int) (a2 : Int) : Option (Int × S2) := mnI a0 a1 fun v2 => mxI a0 a1 fun v7 => mnI v7 a2 fun v11 => mxI v2 v11 fun v14 => rI v14 S
abbrev rmX11_middle : Room := { frames := 1, cells := 0, slots := 0, locals := 21 }
theorem hd_X11_middle : yX11_middle.cls ≠ "java/lang/invoke/MethodHandle" ∧ yX11_middle.cls ≠ "java/lang/invoke/VarHandle" ∧ (parseMethodDescriptor yX11_middle.desc).map (fun d => d.parameters.length) = some 3 := by decide +kernel
set_option maxRecDepth 100000 in
set_option maxHeartbeats 4000000 in
theorem c_X11_middle (l : Launch) (X : XT) (hinj : XInj X nM) (hZ : ZOK (Zm X)) (N : Nat) (S : S2) (a0 : Int) (a1 : Int) (a2 : Int) (out : Int × S2) (hf : f_X11_middle N S a0 a1 a2 = some out) : MI l X shM nM (Zm X) yX11_middle cX11_middle 3 (some .int) rmX11_middle [.int (iz a0), .int (iz a1), .int (iz a2)] S out := by
  refine met_I (own := RX11) (by decide) rfl hinj hZ (Nat.le_of_ble_eq_true rfl) (fun p e s m args below meth c C ls H locs hw hl => ?_)
  unfold f_X11_middle at hf
  have hl : lv_has ls 3 [(0, .int (iz a0)), (1, .int (iz a1)), (2, .int (iz a2))] := hl
  refine lv_iload_n C.1.1 C.1.2.1 dX11_middle_0 rfl (lv_at hl 0 rfl) ?_
  refine lv_iload_n C.1.1 C.1.2.1 dX11_middle_1 rfl (lv_at hl 1 rfl) ?_
  refine r_min C tw6_233 tw3_83 tw1_18 tw3_84 hl.1 (Nat.le_of_ble_eq_true rfl) (Nat.le_of_ble_eq_true rfl) dX11_middle_2 hf (fun v2 hf => ?_)
  refine lv_iload_n C.1.1 C.1.2.1 dX11_middle_5 rfl (lv_at hl 0 rfl) ?_
  refine lv_iload_n C.1.1 C.1.2.1 dX11_middle_6 rfl (lv_at hl 1 rfl) ?_
  refine r_max C tw6_232 tw3_86 tw1_18 tw3_87 hl.1 (Nat.le_of_ble_eq_true rfl) (Nat.le_of_ble_eq_true rfl) dX11_middle_7 hf (fun v7 hf => ?_)
  refine lv_iload_n C.1.1 C.1.2.1 dX11_middle_10 rfl (lv_at hl 2 rfl) ?_
  refine r_min C tw6_233 tw3_83 tw1_18 tw3_84 hl.1 (Nat.le_of_ble_eq_true rfl) (Nat.le_of_ble_eq_true rfl) dX11_middle_11 hf (fun v11 hf => ?_)
  refine r_max C tw6_232 tw3_86 tw1_18 tw3_87 hl.1 (Nat.le_of_ble_eq_true rfl) (Nat.le_of_ble_eq_true rfl) dX11_middle_14 hf (fun v14 hf => ?_)
  exact r_retI C hw dX11_middle_17 hf
def f_X11_blends_85 (k6 : Int → Int → S2 → Option (S2)) (N : Nat) (x1 : Int) (x2 : Int) (y0 : Int) (y1 : Int) (S : S2) : Option (S2) := sI S 8 231 y1 y0 fun S85 => k6 x1 (x2 + 1) S85
def f_X11_blends_6 : Nat → Int → Int → S2 → Option (S2)
  | 0, _, _, _ => none
  | N + 1, x1, x2, S => bI (f_X11_many N S) fun v8 S8 => cI x2 v8 (if v8 ≤ x2 then rV S8 else mxI 0 (x2 - 1) fun v22 => aI S8 22 48 v22 fun v25 => bI (f_X11_many N S8) fun v32 S32 => mnI (v32 - 1) (x2 + 1) fun v40 => aI S32 22 48 v40 fun v43 => cI x1 0 (if x1 = 0 then aI S32 22 48 x2 fun v77 => dvI ((v25 + (2 * v77)) + v43) 4 fun v84 => (f_X11_blends_85 (f_X11_blends_6 N) N) x1 x2 v84 x2 S32 else aI S32 22 48 x2 fun v61 => bI (f_X11_middle N S32 v25 v61 v43) fun v64 S64 => (f_X11_blends_85 (f_X11_blends_6 N) N) x1 x2 v64 x2 S64))
def f_X11_blends (N : Nat) (S : S2) (a1 : Int) : Option (S2) := bV (f_X11_keepWas N S) fun S1 => (f_X11_blends_6 N) a1 0 S1
abbrev rmX11_blends : Room := { frames := 2, cells := 0, slots := 0, locals := 43 }
theorem hd_X11_blends : yX11_blends.cls ≠ "java/lang/invoke/MethodHandle" ∧ yX11_blends.cls ≠ "java/lang/invoke/VarHandle" ∧ (parseMethodDescriptor yX11_blends.desc).map (fun d => d.parameters.length) = some 1 := by decide +kernel
set_option maxRecDepth 100000 in
set_option maxHeartbeats 4000000 in
theorem w_X11_blends_85 {p : Program} (l : Launch) {e : Env} {s : State} {m : MethodId} {args : Array Value} {below : List Frame} {meth : Method} {c : Code} {X : XT} (hinj : XInj X nM) (hZ : ZOK (Zm X)) (C : CX p s m args meth c cX11_blends 5 RX11 none X nM (Zm X)) (out : S2) (k6 : Int → Int → S2 → Option (S2)) (hk6 : ∀ (x1 : Int) (x2 : Int) (S : S2) (H : Heap) (locs : List Loc) (ls : Array Slot), k6 x1 x2 S = some out → WH X shM nM s S H locs → lv_has ls 5 [(0, .ref (X.2.2 0)), (1, .int (iz x1)), (2, .int (iz x2))] → W p l e rmX11_blends s m args below meth c H locs 0 0 (QV X shM nM s args below out) (F0 m 6 ls [])) : ∀ (N : Nat), ∀ (x1 : Int) (x2 : Int) (y0 : Int) (y1 : Int) (S : S2) (H : Heap) (locs : List Loc) (ls : Array Slot), f_X11_blends_85 k6 N x1 x2 y0 y1 S = some out → WH X shM nM s S H locs → lv_has ls 5 [(0, .ref (X.2.2 0)), (1, .int (iz x1)), (2, .int (iz x2))] → W p l e rmX11_blends s m args below meth c H locs 0 0 (QV X shM nM s args below out) (F0 m 85 ls [.int (iz y0), .int (iz y1), .ref (X.2.2 8)]) := by
  intro N x1 x2 y0 y1 S H locs ls hf hw hl
  unfold f_X11_blends_85 at hf
  refine r_iast C hw shM_8 ltM_8 (Nat.le_of_ble_eq_true rfl) dX11_blends_85 hf (fun S85 H locs hf hw => ?_)
  refine lv_iinc (v := iz (x2 + 1)) (lv' := [(2, .int (iz (x2 + 1))), (0, .ref (X.2.2 0)), (1, .int (iz x1))]) C.1.1 C.1.2.1 dX11_blends_86 hl (k := 2) rfl (iz_add _ _) (by decide) rfl (fun ls hl => ?_)
  refine lv_goto (tgt := 6) C.1.1 C.1.2.1 dX11_blends_89 (by decide) ?_
  exact hk6 x1 (x2 + 1) S85 H locs ls hf hw (lv_sub hl [1, 2, 0] rfl)
set_option maxRecDepth 100000 in
set_option maxHeartbeats 4000000 in
theorem w_X11_blends_6 {p : Program} (l : Launch) {e : Env} {s : State} {m : MethodId} {args : Array Value} {below : List Frame} {meth : Method} {c : Code} {X : XT} (hinj : XInj X nM) (hZ : ZOK (Zm X)) (C : CX p s m args meth c cX11_blends 5 RX11 none X nM (Zm X)) (out : S2) : ∀ (N : Nat), ∀ (x1 : Int) (x2 : Int) (S : S2) (H : Heap) (locs : List Loc) (ls : Array Slot), f_X11_blends_6 N x1 x2 S = some out → WH X shM nM s S H locs → lv_has ls 5 [(0, .ref (X.2.2 0)), (1, .int (iz x1)), (2, .int (iz x2))] → W p l e rmX11_blends s m args below meth c H locs 0 0 (QV X shM nM s args below out) (F0 m 6 ls []) := by
  intro N
  induction N with
  | zero => intro x1 x2 S H locs ls hf hw hl; cases hf
  | succ N ih =>
    intro x1 x2 S H locs ls hf hw hl
    rw [f_X11_blends_6.eq_2] at hf
    refine lv_iload_n C.1.1 C.1.2.1 dX11_blends_6 rfl (lv_at hl 2 rfl) ?_
    refine lv_aload_n C.1.1 C.1.2.1 dX11_blends_7 rfl (lv_at hl 0 rfl) ?_
    refine r_callI (As := []) (rest := [.int (iz x2)]) (rm := rmX11_many) C hw shM_0 ltM_0 cO11 tw6_192 tw6_194 tp_60 tw1_12 tw6_195 hd_X11_many rfl ⟨⟨rfl, rfl⟩, Nat.le_of_ble_eq_true rfl, Nat.le_of_ble_eq_true rfl⟩ hl.1 rfl (Nat.le_of_ble_eq_true rfl) dX11_blends_8 hf (fun o ho => c_X11_many l X hinj hZ N S o ho) (fun v8 S8 H locs hf hw => ?_)
    refine r_icmp_ge C (tgt := 92) dX11_blends_11 (by decide) hf (fun hf => ?_) (fun hf => ?_)
    · exact r_retV C hw dX11_blends_92 hf
    · refine lv_aload_n C.1.1 C.1.2.1 dX11_blends_14 rfl (lv_at hl 0 rfl) ?_
      refine r_getR (k := 42) C hw shM_0 ltM_0 cO11 rfl (by decide) tw5_186 rfl dX11_blends_15 ?_
      refine r_iconst (v := 0) C dX11_blends_18 ?_
      refine lv_iload_n C.1.1 C.1.2.1 dX11_blends_19 rfl (lv_at hl 2 rfl) ?_
      refine r_iconst (v := 1) C dX11_blends_20 ?_
      refine r_isub C dX11_blends_21 ?_
      refine r_max C tw6_232 tw3_86 tw1_18 tw3_87 hl.1 (Nat.le_of_ble_eq_true rfl) (Nat.le_of_ble_eq_true rfl) dX11_blends_22 hf (fun v22 hf => ?_)
      refine r_iald C hw shM_22 ltM_22 (Nat.le_of_ble_eq_true rfl) dX11_blends_25 hf (fun v25 hf => ?_)
      refine lv_istore_n (lv' := [(3, .int (iz v25)), (0, .ref (X.2.2 0)), (1, .int (iz x1)), (2, .int (iz x2))]) C.1.1 C.1.2.1 dX11_blends_26 rfl hl (by decide) rfl (fun ls hl => ?_)
      refine lv_aload_n C.1.1 C.1.2.1 dX11_blends_27 rfl (lv_at hl 1 rfl) ?_
      refine r_getR (k := 42) C hw shM_0 ltM_0 cO11 rfl (by decide) tw5_186 rfl dX11_blends_28 ?_
      refine lv_aload_n C.1.1 C.1.2.1 dX11_blends_31 rfl (lv_at hl 1 rfl) ?_
      refine r_callI (As := []) (rest := [.ref (X.2.2 22)]) (rm := rmX11_many) C hw shM_0 ltM_0 cO11 tw6_192 tw6_194 tp_60 tw1_12 tw6_195 hd_X11_many rfl ⟨⟨rfl, rfl⟩, Nat.le_of_ble_eq_true rfl, Nat.le_of_ble_eq_true rfl⟩ hl.1 rfl (Nat.le_of_ble_eq_true rfl) dX11_blends_32 hf (fun o ho => c_X11_many l X hinj hZ N S8 o ho) (fun v32 S32 H locs hf hw => ?_)
      refine r_iconst (v := 1) C dX11_blends_35 ?_
      refine r_isub C dX11_blends_36 ?_
      refine lv_iload_n C.1.1 C.1.2.1 dX11_blends_37 rfl (lv_at hl 3 rfl) ?_
      refine r_iconst (v := 1) C dX11_blends_38 ?_
      refine r_iadd C dX11_blends_39 ?_
      refine r_min C tw6_233 tw3_83 tw1_18 tw3_84 hl.1 (Nat.le_of_ble_eq_true rfl) (Nat.le_of_ble_eq_true rfl) dX11_blends_40 hf (fun v40 hf => ?_)
      refine r_iald C hw shM_22 ltM_22 (Nat.le_of_ble_eq_true rfl) dX11_blends_43 hf (fun v43 hf => ?_)
      refine lv_istore (lv' := [(4, .int (iz v43)), (3, .int (iz v25)), (0, .ref (X.2.2 0)), (1, .int (iz x1)), (2, .int (iz x2))]) C.1.1 C.1.2.1 dX11_blends_44 hl (by decide) rfl (fun ls hl => ?_)
      refine lv_aload_n C.1.1 C.1.2.1 dX11_blends_46 rfl (lv_at hl 2 rfl) ?_
      refine r_getR (k := 22) C hw shM_0 ltM_0 cO11 rfl (by decide) tw5_166 rfl dX11_blends_47 ?_
      refine lv_iload_n C.1.1 C.1.2.1 dX11_blends_50 rfl (lv_at hl 4 rfl) ?_
      refine lv_iload_n C.1.1 C.1.2.1 dX11_blends_51 rfl (lv_at hl 3 rfl) ?_
      refine r_if_eq C (tgt := 70) dX11_blends_52 (by decide) hf (fun hf => ?_) (fun hf => ?_)
      · refine lv_iload_n C.1.1 C.1.2.1 dX11_blends_70 rfl (lv_at hl 1 rfl) ?_
        refine r_iconst (v := 2) C dX11_blends_71 ?_
        refine lv_aload_n C.1.1 C.1.2.1 dX11_blends_72 rfl (lv_at hl 2 rfl) ?_
        refine r_getR (k := 42) C hw shM_0 ltM_0 cO11 rfl (by decide) tw5_186 rfl dX11_blends_73 ?_
        refine lv_iload_n C.1.1 C.1.2.1 dX11_blends_76 rfl (lv_at hl 4 rfl) ?_
        refine r_iald C hw shM_22 ltM_22 (Nat.le_of_ble_eq_true rfl) dX11_blends_77 hf (fun v77 hf => ?_)
        refine r_imul C dX11_blends_78 ?_
        refine r_iadd C dX11_blends_79 ?_
        refine lv_iload C.1.1 C.1.2.1 dX11_blends_80 (lv_at hl 0 rfl) ?_
        refine r_iadd C dX11_blends_82 ?_
        refine r_iconst (v := 4) C dX11_blends_83 ?_
        refine r_idiv C dX11_blends_84 hf (fun v84 hf => ?_)
        exact (w_X11_blends_85 l hinj hZ C out (f_X11_blends_6 N) ih N) x1 x2 v84 x2 S32 H locs ls hf hw (lv_sub hl [2, 3, 4] rfl)
      · refine lv_iload_n C.1.1 C.1.2.1 dX11_blends_55 rfl (lv_at hl 1 rfl) ?_
        refine lv_aload_n C.1.1 C.1.2.1 dX11_blends_56 rfl (lv_at hl 2 rfl) ?_
        refine r_getR (k := 42) C hw shM_0 ltM_0 cO11 rfl (by decide) tw5_186 rfl dX11_blends_57 ?_
        refine lv_iload_n C.1.1 C.1.2.1 dX11_blends_60 rfl (lv_at hl 4 rfl) ?_
        refine r_iald C hw shM_22 ltM_22 (Nat.le_of_ble_eq_true rfl) dX11_blends_61 hf (fun v61 hf => ?_)
        refine lv_iload C.1.1 C.1.2.1 dX11_blends_62 (lv_at hl 0 rfl) ?_
        refine r_scallI (As := [.int (iz v25), .int (iz v61), .int (iz v43)]) (rest := [.int (iz x2), .ref (X.2.2 8)]) (rm := rmX11_middle) C hw tw6_234 tw6_235 tw1_12 tw6_236 hd_X11_middle rfl ⟨⟨rfl, rfl⟩, Nat.le_of_ble_eq_true rfl, Nat.le_of_ble_eq_true rfl⟩ hl.1 rfl (Nat.le_of_ble_eq_true rfl) dX11_blends_64 hf (fun o ho => c_X11_middle l X hinj hZ N S32 v25 v61 v43 o ho) (fun v64 S64 H locs hf hw => ?_)
        refine lv_goto (tgt := 85) C.1.1 C.1.2.1 dX11_blends_67 (by decide) ?_
        exact (w_X11_blends_85 l hinj hZ C out (f_X11_blends_6 N) ih N) x1 x2 v64 x2 S64 H locs ls hf hw (lv_sub hl [2, 3, 4] rfl)
set_option maxRecDepth 100000 in
set_option maxHeartbeats 4000000 in
theorem c_X11_blends (l : Launch) (X : XT) (hinj : XInj X nM) (hZ : ZOK (Zm X)) (N : Nat) (S : S2) (a1 : Int) (out : S2) (hf : f_X11_blends N S a1 = some out) : MV l X shM nM (Zm X) yX11_blends cX11_blends 5 none rmX11_blends [.ref (X.2.2 0), .int (iz a1)] S out := by
  refine met_V (own := RX11) (by decide) rfl hinj hZ (Nat.le_of_ble_eq_true rfl) (fun p e s m args below meth c C ls H locs hw hl => ?_)
  unfold f_X11_blends at hf
  have hl : lv_has ls 5 [(0, .ref (X.2.2 0)), (1, .int (iz a1))] := hl
  refine lv_aload_n C.1.1 C.1.2.1 dX11_blends_0 rfl (lv_at hl 0 rfl) ?_
  refine r_callV (As := []) (rest := []) (rm := rmX11_keepWas) C hw shM_0 ltM_0 cO11 tw6_228 tw6_230 tp_68 tw1_12 tw6_231 hd_X11_keepWas rfl ⟨⟨rfl, rfl⟩, Nat.le_of_ble_eq_true rfl, Nat.le_of_ble_eq_true rfl⟩ hl.1 rfl (Nat.le_of_ble_eq_true rfl) dX11_blends_1 hf (fun o ho => c_X11_keepWas l X hinj hZ N S o ho) (fun S1 H locs hf hw => ?_)
  refine r_iconst (v := 0) C dX11_blends_4 ?_
  refine lv_istore_n (lv' := [(2, .int (iz 0)), (0, .ref (X.2.2 0)), (1, .int (iz a1))]) C.1.1 C.1.2.1 dX11_blends_5 rfl hl (by decide) rfl (fun ls hl => ?_)
  exact (w_X11_blends_6 l hinj hZ C out N) a1 0 S1 H locs ls hf hw (lv_sub hl [1, 2, 0] rfl)
def f_X11_fell_33 (k4 : Int → Int → S2 → Option (Int × S2)) (N : Nat) (x2 : Int) (y0 : Int) (y1 : Int) (S : S2) : Option (Int × S2) := k4 (y1 + y0) (x2 + 1) S
def f_X11_fell_4 : Nat → Int → Int → S2 → Option (Int × S2)
  | 0, _, _, _ => none
  | N + 1, x1, x2, S => bI (f_X11_many N S) fun v6 S6 => cI x2 v6 (if v6 ≤ x2 then rI x1 S6 else aI S6 8 231 x2 fun v18 => aI S6 22 48 x2 fun v24 => cI v18 v24 (if v24 ≤ v18 then (f_X11_fell_33 (f_X11_fell_4 N) N) x2 0 x1 S6 else (f_X11_fell_33 (f_X11_fell_4 N) N) x2 1 x1 S6))
def f_X11_fell (N : Nat) (S : S2) : Option (Int × S2) := (f_X11_fell_4 N) 0 0 S
abbrev rmX11_fell : Room := { frames := 1, cells := 0, slots := 0, locals := 20 }
theorem hd_X11_fell : yX11_fell.cls ≠ "java/lang/invoke/MethodHandle" ∧ yX11_fell.cls ≠ "java/lang/invoke/VarHandle" ∧ (parseMethodDescriptor yX11_fell.desc).map (fun d => d.parameters.length) = some 0 := by decide +kernel
set_option maxRecDepth 100000 in
set_option maxHeartbeats 4000000 in
theorem w_X11_fell_33 {p : Program} (l : Launch) {e : Env} {s : State} {m : MethodId} {args : Array Value} {below : List Frame} {meth : Method} {c : Code} {X : XT} (hinj : XInj X nM) (hZ : ZOK (Zm X)) (C : CX p s m args meth c cX11_fell 3 RX11 (some .int) X nM (Zm X)) (out : Int × S2) (k4 : Int → Int → S2 → Option (Int × S2)) (hk4 : ∀ (x1 : Int) (x2 : Int) (S : S2) (H : Heap) (locs : List Loc) (ls : Array Slot), k4 x1 x2 S = some out → WH X shM nM s S H locs → lv_has ls 3 [(0, .ref (X.2.2 0)), (1, .int (iz x1)), (2, .int (iz x2))] → W p l e rmX11_fell s m args below meth c H locs 0 0 (QI X shM nM s args below out) (F0 m 4 ls [])) : ∀ (N : Nat), ∀ (x2 : Int) (y0 : Int) (y1 : Int) (S : S2) (H : Heap) (locs : List Loc) (ls : Array Slot), f_X11_fell_33 k4 N x2 y0 y1 S = some out → WH X shM nM s S H locs → lv_has ls 3 [(0, .ref (X.2.2 0)), (2, .int (iz x2))] → W p l e rmX11_fell s m args below meth c H locs 0 0 (QI X shM nM s args below out) (F0 m 33 ls [.int (iz y0), .int (iz y1)]) := by
  intro N x2 y0 y1 S H locs ls hf hw hl
  unfold f_X11_fell_33 at hf
  refine r_iadd C dX11_fell_33 ?_
  refine lv_istore_n (lv' := [(1, .int (iz (y1 + y0))), (0, .ref (X.2.2 0)), (2, .int (iz x2))]) C.1.1 C.1.2.1 dX11_fell_34 rfl hl (by decide) rfl (fun ls hl => ?_)
  refine lv_iinc (v := iz (x2 + 1)) (lv' := [(2, .int (iz (x2 + 1))), (1, .int (iz (y1 + y0))), (0, .ref (X.2.2 0))]) C.1.1 C.1.2.1 dX11_fell_35 hl (k := 2) rfl (iz_add _ _) (by decide) rfl (fun ls hl => ?_)
  refine lv_goto (tgt := 4) C.1.1 C.1.2.1 dX11_fell_38 (by decide) ?_
  exact hk4 (y1 + y0) (x2 + 1) S H locs ls hf hw (lv_sub hl [2, 1, 0] rfl)
set_option maxRecDepth 100000 in
set_option maxHeartbeats 4000000 in
theorem w_X11_fell_4 {p : Program} (l : Launch) {e : Env} {s : State} {m : MethodId} {args : Array Value} {below : List Frame} {meth : Method} {c : Code} {X : XT} (hinj : XInj X nM) (hZ : ZOK (Zm X)) (C : CX p s m args meth c cX11_fell 3 RX11 (some .int) X nM (Zm X)) (out : Int × S2) : ∀ (N : Nat), ∀ (x1 : Int) (x2 : Int) (S : S2) (H : Heap) (locs : List Loc) (ls : Array Slot), f_X11_fell_4 N x1 x2 S = some out → WH X shM nM s S H locs → lv_has ls 3 [(0, .ref (X.2.2 0)), (1, .int (iz x1)), (2, .int (iz x2))] → W p l e rmX11_fell s m args below meth c H locs 0 0 (QI X shM nM s args below out) (F0 m 4 ls []) := by
  intro N
  induction N with
  | zero => intro x1 x2 S H locs ls hf hw hl; cases hf
  | succ N ih =>
    intro x1 x2 S H locs ls hf hw hl
    rw [f_X11_fell_4.eq_2] at hf
    refine lv_iload_n C.1.1 C.1.2.1 dX11_fell_4 rfl (lv_at hl 2 rfl) ?_
    refine lv_aload_n C.1.1 C.1.2.1 dX11_fell_5 rfl (lv_at hl 0 rfl) ?_
    refine r_callI (As := []) (rest := [.int (iz x2)]) (rm := rmX11_many) C hw shM_0 ltM_0 cO11 tw6_192 tw6_194 tp_60 tw1_12 tw6_195 hd_X11_many rfl ⟨⟨rfl, rfl⟩, Nat.le_of_ble_eq_true rfl, Nat.le_of_ble_eq_true rfl⟩ hl.1 rfl (Nat.le_of_ble_eq_true rfl) dX11_fell_6 hf (fun o ho => c_X11_many l X hinj hZ N S o ho) (fun v6 S6 H locs hf hw => ?_)
    refine r_icmp_ge C (tgt := 41) dX11_fell_9 (by decide) hf (fun hf => ?_) (fun hf => ?_)
    · refine lv_iload_n C.1.1 C.1.2.1 dX11_fell_41 rfl (lv_at hl 1 rfl) ?_
      exact r_retI C hw dX11_fell_42 hf
    · refine lv_iload_n C.1.1 C.1.2.1 dX11_fell_12 rfl (lv_at hl 1 rfl) ?_
      refine lv_aload_n C.1.1 C.1.2.1 dX11_fell_13 rfl (lv_at hl 0 rfl) ?_
      refine r_getR (k := 22) C hw shM_0 ltM_0 cO11 rfl (by decide) tw5_166 rfl dX11_fell_14 ?_
      refine lv_iload_n C.1.1 C.1.2.1 dX11_fell_17 rfl (lv_at hl 2 rfl) ?_
      refine r_iald C hw shM_8 ltM_8 (Nat.le_of_ble_eq_true rfl) dX11_fell_18 hf (fun v18 hf => ?_)
      refine lv_aload_n C.1.1 C.1.2.1 dX11_fell_19 rfl (lv_at hl 0 rfl) ?_
      refine r_getR (k := 42) C hw shM_0 ltM_0 cO11 rfl (by decide) tw5_186 rfl dX11_fell_20 ?_
      refine lv_iload_n C.1.1 C.1.2.1 dX11_fell_23 rfl (lv_at hl 2 rfl) ?_
      refine r_iald C hw shM_22 ltM_22 (Nat.le_of_ble_eq_true rfl) dX11_fell_24 hf (fun v24 hf => ?_)
      refine r_icmp_ge C (tgt := 32) dX11_fell_25 (by decide) hf (fun hf => ?_) (fun hf => ?_)
      · refine r_iconst (v := 0) C dX11_fell_32 ?_
        exact (w_X11_fell_33 l hinj hZ C out (f_X11_fell_4 N) ih N) x2 0 x1 S6 H locs ls hf hw (lv_sub hl [0, 2] rfl)
      · refine r_iconst (v := 1) C dX11_fell_28 ?_
        refine lv_goto (tgt := 33) C.1.1 C.1.2.1 dX11_fell_29 (by decide) ?_
        exact (w_X11_fell_33 l hinj hZ C out (f_X11_fell_4 N) ih N) x2 1 x1 S6 H locs ls hf hw (lv_sub hl [0, 2] rfl)
set_option maxRecDepth 100000 in
set_option maxHeartbeats 4000000 in
theorem c_X11_fell (l : Launch) (X : XT) (hinj : XInj X nM) (hZ : ZOK (Zm X)) (N : Nat) (S : S2) (out : Int × S2) (hf : f_X11_fell N S = some out) : MI l X shM nM (Zm X) yX11_fell cX11_fell 3 (some .int) rmX11_fell [.ref (X.2.2 0)] S out := by
  refine met_I (own := RX11) (by decide) rfl hinj hZ (Nat.le_of_ble_eq_true rfl) (fun p e s m args below meth c C ls H locs hw hl => ?_)
  unfold f_X11_fell at hf
  have hl : lv_has ls 3 [(0, .ref (X.2.2 0))] := hl
  refine r_iconst (v := 0) C dX11_fell_0 ?_
  refine lv_istore_n (lv' := [(1, .int (iz 0)), (0, .ref (X.2.2 0))]) C.1.1 C.1.2.1 dX11_fell_1 rfl hl (by decide) rfl (fun ls hl => ?_)
  refine r_iconst (v := 0) C dX11_fell_2 ?_
  refine lv_istore_n (lv' := [(2, .int (iz 0)), (1, .int (iz 0)), (0, .ref (X.2.2 0))]) C.1.1 C.1.2.1 dX11_fell_3 rfl hl (by decide) rfl (fun ls hl => ?_)
  exact (w_X11_fell_4 l hinj hZ C out N) 0 0 S H locs ls hf hw (lv_sub hl [2, 1, 0] rfl)
def f_X11_clips_36 (N : Nat) (S : S2) : Option (Int × S2) := bI (f_X11_fell N S) fun v37 S37 => rI v37 S37
def f_X11_clips_6 (k36 : S2 → Option (Int × S2)) : Nat → Int → Int → S2 → Option (Int × S2)
  | 0, _, _, _ => none
  | N + 1, x1, x2, S => bI (f_X11_many N S) fun v8 S8 => cI x2 v8 (if v8 ≤ x2 then k36 S8 else aI S8 8 231 x2 fun v24 => mnI v24 x1 fun v26 => sI S8 8 231 x2 v26 fun S29 => (f_X11_clips_6 k36 N) x1 (x2 + 1) S29)
def f_X11_clips (N : Nat) (S : S2) (a1 : Int) : Option (Int × S2) := bV (f_X11_keepWas N S) fun S1 => (f_X11_clips_6 (f_X11_clips_36 N) N) a1 0 S1
abbrev rmX11_clips : Room := { frames := 2, cells := 0, slots := 0, locals := 42 }
theorem hd_X11_clips : yX11_clips.cls ≠ "java/lang/invoke/MethodHandle" ∧ yX11_clips.cls ≠ "java/lang/invoke/VarHandle" ∧ (parseMethodDescriptor yX11_clips.desc).map (fun d => d.parameters.length) = some 1 := by decide +kernel
set_option maxRecDepth 100000 in
set_option maxHeartbeats 4000000 in
theorem w_X11_clips_36 {p : Program} (l : Launch) {e : Env} {s : State} {m : MethodId} {args : Array Value} {below : List Frame} {meth : Method} {c : Code} {X : XT} (hinj : XInj X nM) (hZ : ZOK (Zm X)) (C : CX p s m args meth c cX11_clips 3 RX11 (some .int) X nM (Zm X)) (out : Int × S2) : ∀ (N : Nat), ∀ (S : S2) (H : Heap) (locs : List Loc) (ls : Array Slot), f_X11_clips_36 N S = some out → WH X shM nM s S H locs → lv_has ls 3 [(0, .ref (X.2.2 0))] → W p l e rmX11_clips s m args below meth c H locs 0 0 (QI X shM nM s args below out) (F0 m 36 ls []) := by
  intro N S H locs ls hf hw hl
  unfold f_X11_clips_36 at hf
  refine lv_aload_n C.1.1 C.1.2.1 dX11_clips_36 rfl (lv_at hl 0 rfl) ?_
  refine r_callI (As := []) (rest := []) (rm := rmX11_fell) C hw shM_0 ltM_0 cO11 tw7_52 tw7_54 tp_82 tw1_12 tw7_55 hd_X11_fell rfl ⟨⟨rfl, rfl⟩, Nat.le_of_ble_eq_true rfl, Nat.le_of_ble_eq_true rfl⟩ hl.1 rfl (Nat.le_of_ble_eq_true rfl) dX11_clips_37 hf (fun o ho => c_X11_fell l X hinj hZ N S o ho) (fun v37 S37 H locs hf hw => ?_)
  exact r_retI C hw dX11_clips_40 hf
set_option maxRecDepth 100000 in
set_option maxHeartbeats 4000000 in
theorem w_X11_clips_6 {p : Program} (l : Launch) {e : Env} {s : State} {m : MethodId} {args : Array Value} {below : List Frame} {meth : Method} {c : Code} {X : XT} (hinj : XInj X nM) (hZ : ZOK (Zm X)) (C : CX p s m args meth c cX11_clips 3 RX11 (some .int) X nM (Zm X)) (out : Int × S2) (k36 : S2 → Option (Int × S2)) (hk36 : ∀ (S : S2) (H : Heap) (locs : List Loc) (ls : Array Slot), k36 S = some out → WH X shM nM s S H locs → lv_has ls 3 [(0, .ref (X.2.2 0))] → W p l e rmX11_clips s m args below meth c H locs 0 0 (QI X shM nM s args below out) (F0 m 36 ls [])) : ∀ (N : Nat), ∀ (x1 : Int) (x2 : Int) (S : S2) (H : Heap) (locs : List Loc) (ls : Array Slot), f_X11_clips_6 k36 N x1 x2 S = some out → WH X shM nM s S H locs → lv_has ls 3 [(0, .ref (X.2.2 0)), (1, .int (iz x1)), (2, .int (iz x2))] → W p l e rmX11_clips s m args below meth c H locs 0 0 (QI X shM nM s args below out) (F0 m 6 ls []) := by
  intro N
  induction N with
  | zero => intro x1 x2 S H locs ls hf hw hl; cases hf
  | succ N ih =>
    intro x1 x2 S H locs ls hf hw hl
    rw [f_X11_clips_6.eq_2] at hf
    refine lv_iload_n C.1.1 C.1.2.1 dX11_clips_6 rfl (lv_at hl 2 rfl) ?_
    refine lv_aload_n C.1.1 C.1.2.1 dX11_clips_7 rfl (lv_at hl 0 rfl) ?_
    refine r_callI (As := []) (rest := [.int (iz x2)]) (rm := rmX11_many) C hw shM_0 ltM_0 cO11 tw6_192 tw6_194 tp_60 tw1_12 tw6_195 hd_X11_many rfl ⟨⟨rfl, rfl⟩, Nat.le_of_ble_eq_true rfl, Nat.le_of_ble_eq_true rfl⟩ hl.1 rfl (Nat.le_of_ble_eq_true rfl) dX11_clips_8 hf (fun o ho => c_X11_many l X hinj hZ N S o ho) (fun v8 S8 H locs hf hw => ?_)
    refine r_icmp_ge C (tgt := 36) dX11_clips_11 (by decide) hf (fun hf => ?_) (fun hf => ?_)
    · exact hk36 S8 H locs ls hf hw (lv_sub hl [0] rfl)
    · refine lv_aload_n C.1.1 C.1.2.1 dX11_clips_14 rfl (lv_at hl 0 rfl) ?_
      refine r_getR (k := 22) C hw shM_0 ltM_0 cO11 rfl (by decide) tw5_166 rfl dX11_clips_15 ?_
      refine lv_iload_n C.1.1 C.1.2.1 dX11_clips_18 rfl (lv_at hl 2 rfl) ?_
      refine lv_aload_n C.1.1 C.1.2.1 dX11_clips_19 rfl (lv_at hl 0 rfl) ?_
      refine r_getR (k := 22) C hw shM_0 ltM_0 cO11 rfl (by decide) tw5_166 rfl dX11_clips_20 ?_
      refine lv_iload_n C.1.1 C.1.2.1 dX11_clips_23 rfl (lv_at hl 2 rfl) ?_
      refine r_iald C hw shM_8 ltM_8 (Nat.le_of_ble_eq_true rfl) dX11_clips_24 hf (fun v24 hf => ?_)
      refine lv_iload_n C.1.1 C.1.2.1 dX11_clips_25 rfl (lv_at hl 1 rfl) ?_
      refine r_min C tw6_233 tw3_83 tw1_18 tw3_84 hl.1 (Nat.le_of_ble_eq_true rfl) (Nat.le_of_ble_eq_true rfl) dX11_clips_26 hf (fun v26 hf => ?_)
      refine r_iast C hw shM_8 ltM_8 (Nat.le_of_ble_eq_true rfl) dX11_clips_29 hf (fun S29 H locs hf hw => ?_)
      refine lv_iinc (v := iz (x2 + 1)) (lv' := [(2, .int (iz (x2 + 1))), (0, .ref (X.2.2 0)), (1, .int (iz x1))]) C.1.1 C.1.2.1 dX11_clips_30 hl (k := 2) rfl (iz_add _ _) (by decide) rfl (fun ls hl => ?_)
      refine lv_goto (tgt := 6) C.1.1 C.1.2.1 dX11_clips_33 (by decide) ?_
      exact ih x1 (x2 + 1) S29 H locs ls hf hw (lv_sub hl [1, 2, 0] rfl)
set_option maxRecDepth 100000 in
set_option maxHeartbeats 4000000 in
theorem c_X11_clips (l : Launch) (X : XT) (hinj : XInj X nM) (hZ : ZOK (Zm X)) (N : Nat) (S : S2) (a1 : Int) (out : Int × S2) (hf : f_X11_clips N S a1 = some out) : MI l X shM nM (Zm X) yX11_clips cX11_clips 3 (some .int) rmX11_clips [.ref (X.2.2 0), .int (iz a1)] S out := by
  refine met_I (own := RX11) (by decide) rfl hinj hZ (Nat.le_of_ble_eq_true rfl) (fun p e s m args below meth c C ls H locs hw hl => ?_)
  unfold f_X11_clips at hf
  have hl : lv_has ls 3 [(0, .ref (X.2.2 0)), (1, .int (iz a1))] := hl
  refine lv_aload_n C.1.1 C.1.2.1 dX11_clips_0 rfl (lv_at hl 0 rfl) ?_
  refine r_callV (As := []) (rest := []) (rm := rmX11_keepWas) C hw shM_0 ltM_0 cO11 tw6_228 tw6_230 tp_68 tw1_12 tw6_231 hd_X11_keepWas rfl ⟨⟨rfl, rfl⟩, Nat.le_of_ble_eq_true rfl, Nat.le_of_ble_eq_true rfl⟩ hl.1 rfl (Nat.le_of_ble_eq_true rfl) dX11_clips_1 hf (fun o ho => c_X11_keepWas l X hinj hZ N S o ho) (fun S1 H locs hf hw => ?_)
  refine r_iconst (v := 0) C dX11_clips_4 ?_
  refine lv_istore_n (lv' := [(2, .int (iz 0)), (0, .ref (X.2.2 0)), (1, .int (iz a1))]) C.1.1 C.1.2.1 dX11_clips_5 rfl hl (by decide) rfl (fun ls hl => ?_)
  exact (w_X11_clips_6 l hinj hZ C out (f_X11_clips_36 N) (w_X11_clips_36 l hinj hZ C out N) N) a1 0 S1 H locs ls hf hw (lv_sub hl [1, 2, 0] rfl)
def f_X11_turns_39 (N : Nat) (S : S2) : Option (Int × S2) := aI S 8 231 0 fun v44 => rI v44 S
def f_X11_turns_6 (k39 : S2 → Option (Int × S2)) : Nat → Int → S2 → Option (Int × S2)
  | 0, _, _ => none
  | N + 1, x1, S => bI (f_X11_many N S) fun v8 S8 => cI x1 v8 (if v8 ≤ x1 then k39 S8 else bI (f_X11_many N S8) fun v24 S24 => aI S24 22 48 ((v24 - 1) - x1) fun v31 => sI S24 8 231 x1 v31 fun S32 => (f_X11_turns_6 k39 N) (x1 + 1) S32)
def f_X11_turns (N : Nat) (S : S2) : Option (Int × S2) := bV (f_X11_keepWas N S) fun S1 => (f_X11_turns_6 (f_X11_turns_39 N) N) 0 S1
abbrev rmX11_turns : Room := { frames := 1, cells := 0, slots := 0, locals := 21 }
theorem hd_X11_turns : yX11_turns.cls ≠ "java/lang/invoke/MethodHandle" ∧ yX11_turns.cls ≠ "java/lang/invoke/VarHandle" ∧ (parseMethodDescriptor yX11_turns.desc).map (fun d => d.parameters.length) = some 0 := by decide +kernel
set_option maxRecDepth 100000 in
set_option maxHeartbeats 4000000 in
theorem w_X11_turns_39 {p : Program} (l : Launch) {e : Env} {s : State} {m : MethodId} {args : Array Value} {below : List Frame} {meth : Method} {c : Code} {X : XT} (hinj : XInj X nM) (hZ : ZOK (Zm X)) (C : CX p s m args meth c cX11_turns 2 RX11 (some .int) X nM (Zm X)) (out : Int × S2) : ∀ (N : Nat), ∀ (S : S2) (H : Heap) (locs : List Loc) (ls : Array Slot), f_X11_turns_39 N S = some out → WH X shM nM s S H locs → lv_has ls 2 [(0, .ref (X.2.2 0))] → W p l e rmX11_turns s m args below meth c H locs 0 0 (QI X shM nM s args below out) (F0 m 39 ls []) := by
  intro N S H locs ls hf hw hl
  unfold f_X11_turns_39 at hf
  refine lv_aload_n C.1.1 C.1.2.1 dX11_turns_39 rfl (lv_at hl 0 rfl) ?_
  refine r_getR (k := 22) C hw shM_0 ltM_0 cO11 rfl (by decide) tw5_166 rfl dX11_turns_40 ?_
  refine r_iconst (v := 0) C dX11_turns_43 ?_
  refine r_iald C hw shM_8 ltM_8 (Nat.le_of_ble_eq_true rfl) dX11_turns_44 hf (fun v44 hf => ?_)
  exact r_retI C hw dX11_turns_45 hf
set_option maxRecDepth 100000 in
set_option maxHeartbeats 4000000 in
theorem w_X11_turns_6 {p : Program} (l : Launch) {e : Env} {s : State} {m : MethodId} {args : Array Value} {below : List Frame} {meth : Method} {c : Code} {X : XT} (hinj : XInj X nM) (hZ : ZOK (Zm X)) (C : CX p s m args meth c cX11_turns 2 RX11 (some .int) X nM (Zm X)) (out : Int × S2) (k39 : S2 → Option (Int × S2)) (hk39 : ∀ (S : S2) (H : Heap) (locs : List Loc) (ls : Array Slot), k39 S = some out → WH X shM nM s S H locs → lv_has ls 2 [(0, .ref (X.2.2 0))] → W p l e rmX11_turns s m args below meth c H locs 0 0 (QI X shM nM s args below out) (F0 m 39 ls [])) : ∀ (N : Nat), ∀ (x1 : Int) (S : S2) (H : Heap) (locs : List Loc) (ls : Array Slot), f_X11_turns_6 k39 N x1 S = some out → WH X shM nM s S H locs → lv_has ls 2 [(0, .ref (X.2.2 0)), (1, .int (iz x1))] → W p l e rmX11_turns s m args below meth c H locs 0 0 (QI X shM nM s args below out) (F0 m 6 ls []) := by
  intro N
  induction N with
  | zero => intro x1 S H locs ls hf hw hl; cases hf
  | succ N ih =>
    intro x1 S H locs ls hf hw hl
    rw [f_X11_turns_6.eq_2] at hf
    refine lv_iload_n C.1.1 C.1.2.1 dX11_turns_6 rfl (lv_at hl 1 rfl) ?_
    refine lv_aload_n C.1.1 C.1.2.1 dX11_turns_7 rfl (lv_at hl 0 rfl) ?_
    refine r_callI (As := []) (rest := [.int (iz x1)]) (rm := rmX11_many) C hw shM_0 ltM_0 cO11 tw6_192 tw6_194 tp_60 tw1_12 tw6_195 hd_X11_many rfl ⟨⟨rfl, rfl⟩, Nat.le_of_ble_eq_true rfl, Nat.le_of_ble_eq_true rfl⟩ hl.1 rfl (Nat.le_of_ble_eq_true rfl) dX11_turns_8 hf (fun o ho => c_X11_many l X hinj hZ N S o ho) (fun v8 S8 H locs hf hw => ?_)
    refine r_icmp_ge C (tgt := 39) dX11_turns_11 (by decide) hf (fun hf => ?_) (fun hf => ?_)
    · exact hk39 S8 H locs ls hf hw (lv_sub hl [0] rfl)
    · refine lv_aload_n C.1.1 C.1.2.1 dX11_turns_14 rfl (lv_at hl 0 rfl) ?_
      refine r_getR (k := 22) C hw shM_0 ltM_0 cO11 rfl (by decide) tw5_166 rfl dX11_turns_15 ?_
      refine lv_iload_n C.1.1 C.1.2.1 dX11_turns_18 rfl (lv_at hl 1 rfl) ?_
      refine lv_aload_n C.1.1 C.1.2.1 dX11_turns_19 rfl (lv_at hl 0 rfl) ?_
      refine r_getR (k := 42) C hw shM_0 ltM_0 cO11 rfl (by decide) tw5_186 rfl dX11_turns_20 ?_
      refine lv_aload_n C.1.1 C.1.2.1 dX11_turns_23 rfl (lv_at hl 0 rfl) ?_
      refine r_callI (As := []) (rest := [.ref (X.2.2 22), .int (iz x1), .ref (X.2.2 8)]) (rm := rmX11_many) C hw shM_0 ltM_0 cO11 tw6_192 tw6_194 tp_60 tw1_12 tw6_195 hd_X11_many rfl ⟨⟨rfl, rfl⟩, Nat.le_of_ble_eq_true rfl, Nat.le_of_ble_eq_true rfl⟩ hl.1 rfl (Nat.le_of_ble_eq_true rfl) dX11_turns_24 hf (fun o ho => c_X11_many l X hinj hZ N S8 o ho) (fun v24 S24 H locs hf hw => ?_)
      refine r_iconst (v := 1) C dX11_turns_27 ?_
      refine r_isub C dX11_turns_28 ?_
      refine lv_iload_n C.1.1 C.1.2.1 dX11_turns_29 rfl (lv_at hl 1 rfl) ?_
      refine r_isub C dX11_turns_30 ?_
      refine r_iald C hw shM_22 ltM_22 (Nat.le_of_ble_eq_true rfl) dX11_turns_31 hf (fun v31 hf => ?_)
      refine r_iast C hw shM_8 ltM_8 (Nat.le_of_ble_eq_true rfl) dX11_turns_32 hf (fun S32 H locs hf hw => ?_)
      refine lv_iinc (v := iz (x1 + 1)) (lv' := [(1, .int (iz (x1 + 1))), (0, .ref (X.2.2 0))]) C.1.1 C.1.2.1 dX11_turns_33 hl (k := 1) rfl (iz_add _ _) (by decide) rfl (fun ls hl => ?_)
      refine lv_goto (tgt := 6) C.1.1 C.1.2.1 dX11_turns_36 (by decide) ?_
      exact ih (x1 + 1) S32 H locs ls hf hw (lv_sub hl [1, 0] rfl)
set_option maxRecDepth 100000 in
set_option maxHeartbeats 4000000 in
theorem c_X11_turns (l : Launch) (X : XT) (hinj : XInj X nM) (hZ : ZOK (Zm X)) (N : Nat) (S : S2) (out : Int × S2) (hf : f_X11_turns N S = some out) : MI l X shM nM (Zm X) yX11_turns cX11_turns 2 (some .int) rmX11_turns [.ref (X.2.2 0)] S out := by
  refine met_I (own := RX11) (by decide) rfl hinj hZ (Nat.le_of_ble_eq_true rfl) (fun p e s m args below meth c C ls H locs hw hl => ?_)
  unfold f_X11_turns at hf
  have hl : lv_has ls 2 [(0, .ref (X.2.2 0))] := hl
  refine lv_aload_n C.1.1 C.1.2.1 dX11_turns_0 rfl (lv_at hl 0 rfl) ?_
  refine r_callV (As := []) (rest := []) (rm := rmX11_keepWas) C hw shM_0 ltM_0 cO11 tw6_228 tw6_230 tp_68 tw1_12 tw6_231 hd_X11_keepWas rfl ⟨⟨rfl, rfl⟩, Nat.le_of_ble_eq_true rfl, Nat.le_of_ble_eq_true rfl⟩ hl.1 rfl (Nat.le_of_ble_eq_true rfl) dX11_turns_1 hf (fun o ho => c_X11_keepWas l X hinj hZ N S o ho) (fun S1 H locs hf hw => ?_)
  refine r_iconst (v := 0) C dX11_turns_4 ?_
  refine lv_istore_n (lv' := [(1, .int (iz 0)), (0, .ref (X.2.2 0))]) C.1.1 C.1.2.1 dX11_turns_5 rfl hl (by decide) rfl (fun ls hl => ?_)
  exact (w_X11_turns_6 l hinj hZ C out (f_X11_turns_39 N) (w_X11_turns_39 l hinj hZ C out N) N) 0 S1 H locs ls hf hw (lv_sub hl [1, 0] rfl)
def f_X11_lifts_40 (N : Nat) (S : S2) : Option (Int × S2) := bI (f_X11_least N S) fun v41 S41 => rI v41 S41
def f_X11_lifts_2 (k40 : S2 → Option (Int × S2)) : Nat → Int → Int → S2 → Option (Int × S2)
  | 0, _, _, _ => none
  | N + 1, x1, x2, S => bI (f_X11_many N S) fun v4 S4 => cI x2 v4 (if v4 ≤ x2 then k40 S4 else aI S4 8 231 x2 fun v24 => mnI 999 (v24 + x1) fun v27 => mxI 0 v27 fun v30 => sI S4 8 231 x2 v30 fun S33 => (f_X11_lifts_2 k40 N) x1 (x2 + 1) S33)
def f_X11_lifts (N : Nat) (S : S2) (a1 : Int) : Option (Int × S2) := (f_X11_lifts_2 (f_X11_lifts_40 N) N) a1 0 S
abbrev rmX11_lifts : Room := { frames := 2, cells := 0, slots := 0, locals := 43 }
theorem hd_X11_lifts : yX11_lifts.cls ≠ "java/lang/invoke/MethodHandle" ∧ yX11_lifts.cls ≠ "java/lang/invoke/VarHandle" ∧ (parseMethodDescriptor yX11_lifts.desc).map (fun d => d.parameters.length) = some 1 := by decide +kernel
set_option maxRecDepth 100000 in
set_option maxHeartbeats 4000000 in
theorem w_X11_lifts_40 {p : Program} (l : Launch) {e : Env} {s : State} {m : MethodId} {args : Array Value} {below : List Frame} {meth : Method} {c : Code} {X : XT} (hinj : XInj X nM) (hZ : ZOK (Zm X)) (C : CX p s m args meth c cX11_lifts 3 RX11 (some .int) X nM (Zm X)) (out : Int × S2) : ∀ (N : Nat), ∀ (S : S2) (H : Heap) (locs : List Loc) (ls : Array Slot), f_X11_lifts_40 N S = some out → WH X shM nM s S H locs → lv_has ls 3 [(0, .ref (X.2.2 0))] → W p l e rmX11_lifts s m args below meth c H locs 0 0 (QI X shM nM s args below out) (F0 m 40 ls []) := by
  intro N S H locs ls hf hw hl
  unfold f_X11_lifts_40 at hf
  refine lv_aload_n C.1.1 C.1.2.1 dX11_lifts_40 rfl (lv_at hl 0 rfl) ?_
  refine r_callI (As := []) (rest := []) (rm := rmX11_least) C hw shM_0 ltM_0 cO11 tw7_29 tw7_31 tp_77 tw1_12 tw7_32 hd_X11_least rfl ⟨⟨rfl, rfl⟩, Nat.le_of_ble_eq_true rfl, Nat.le_of_ble_eq_true rfl⟩ hl.1 rfl (Nat.le_of_ble_eq_true rfl) dX11_lifts_41 hf (fun o ho => c_X11_least l X hinj hZ N S o ho) (fun v41 S41 H locs hf hw => ?_)
  exact r_retI C hw dX11_lifts_44 hf
set_option maxRecDepth 100000 in
set_option maxHeartbeats 4000000 in
theorem w_X11_lifts_2 {p : Program} (l : Launch) {e : Env} {s : State} {m : MethodId} {args : Array Value} {below : List Frame} {meth : Method} {c : Code} {X : XT} (hinj : XInj X nM) (hZ : ZOK (Zm X)) (C : CX p s m args meth c cX11_lifts 3 RX11 (some .int) X nM (Zm X)) (out : Int × S2) (k40 : S2 → Option (Int × S2)) (hk40 : ∀ (S : S2) (H : Heap) (locs : List Loc) (ls : Array Slot), k40 S = some out → WH X shM nM s S H locs → lv_has ls 3 [(0, .ref (X.2.2 0))] → W p l e rmX11_lifts s m args below meth c H locs 0 0 (QI X shM nM s args below out) (F0 m 40 ls [])) : ∀ (N : Nat), ∀ (x1 : Int) (x2 : Int) (S : S2) (H : Heap) (locs : List Loc) (ls : Array Slot), f_X11_lifts_2 k40 N x1 x2 S = some out → WH X shM nM s S H locs → lv_has ls 3 [(0, .ref (X.2.2 0)), (1, .int (iz x1)), (2, .int (iz x2))] → W p l e rmX11_lifts s m args below meth c H locs 0 0 (QI X shM nM s args below out) (F0 m 2 ls []) := by
  intro N
  induction N with
  | zero => intro x1 x2 S H locs ls hf hw hl; cases hf
  | succ N ih =>
    intro x1 x2 S H locs ls hf hw hl
    rw [f_X11_lifts_2.eq_2] at hf
    refine lv_iload_n C.1.1 C.1.2.1 dX11_lifts_2 rfl (lv_at hl 2 rfl) ?_
    refine lv_aload_n C.1.1 C.1.2.1 dX11_lifts_3 rfl (lv_at hl 0 rfl) ?_
    refine r_callI (As := []) (rest := [.int (iz x2)]) (rm := rmX11_many) C hw shM_0 ltM_0 cO11 tw6_192 tw6_194 tp_60 tw1_12 tw6_195 hd_X11_many rfl ⟨⟨rfl, rfl⟩, Nat.le_of_ble_eq_true rfl, Nat.le_of_ble_eq_true rfl⟩ hl.1 rfl (Nat.le_of_ble_eq_true rfl) dX11_lifts_4 hf (fun o ho => c_X11_many l X hinj hZ N S o ho) (fun v4 S4 H locs hf hw => ?_)
    refine r_icmp_ge C (tgt := 40) dX11_lifts_7 (by decide) hf (fun hf => ?_) (fun hf => ?_)
    · exact hk40 S4 H locs ls hf hw (lv_sub hl [0] rfl)
    · refine lv_aload_n C.1.1 C.1.2.1 dX11_lifts_10 rfl (lv_at hl 0 rfl) ?_
      refine r_getR (k := 22) C hw shM_0 ltM_0 cO11 rfl (by decide) tw5_166 rfl dX11_lifts_11 ?_
      refine lv_iload_n C.1.1 C.1.2.1 dX11_lifts_14 rfl (lv_at hl 2 rfl) ?_
      refine r_iconst (v := 0) C dX11_lifts_15 ?_
      refine r_sipush (v := 999) C dX11_lifts_16 (by decide) ?_
      refine lv_aload_n C.1.1 C.1.2.1 dX11_lifts_19 rfl (lv_at hl 0 rfl) ?_
      refine r_getR (k := 22) C hw shM_0 ltM_0 cO11 rfl (by decide) tw5_166 rfl dX11_lifts_20 ?_
      refine lv_iload_n C.1.1 C.1.2.1 dX11_lifts_23 rfl (lv_at hl 2 rfl) ?_
      refine r_iald C hw shM_8 ltM_8 (Nat.le_of_ble_eq_true rfl) dX11_lifts_24 hf (fun v24 hf => ?_)
      refine lv_iload_n C.1.1 C.1.2.1 dX11_lifts_25 rfl (lv_at hl 1 rfl) ?_
      refine r_iadd C dX11_lifts_26 ?_
      refine r_min C tw6_233 tw3_83 tw1_18 tw3_84 hl.1 (Nat.le_of_ble_eq_true rfl) (Nat.le_of_ble_eq_true rfl) dX11_lifts_27 hf (fun v27 hf => ?_)
      refine r_max C tw6_232 tw3_86 tw1_18 tw3_87 hl.1 (Nat.le_of_ble_eq_true rfl) (Nat.le_of_ble_eq_true rfl) dX11_lifts_30 hf (fun v30 hf => ?_)
      refine r_iast C hw shM_8 ltM_8 (Nat.le_of_ble_eq_true rfl) dX11_lifts_33 hf (fun S33 H locs hf hw => ?_)
      refine lv_iinc (v := iz (x2 + 1)) (lv' := [(2, .int (iz (x2 + 1))), (0, .ref (X.2.2 0)), (1, .int (iz x1))]) C.1.1 C.1.2.1 dX11_lifts_34 hl (k := 2) rfl (iz_add _ _) (by decide) rfl (fun ls hl => ?_)
      refine lv_goto (tgt := 2) C.1.1 C.1.2.1 dX11_lifts_37 (by decide) ?_
      exact ih x1 (x2 + 1) S33 H locs ls hf hw (lv_sub hl [1, 2, 0] rfl)
set_option maxRecDepth 100000 in
set_option maxHeartbeats 4000000 in
theorem c_X11_lifts (l : Launch) (X : XT) (hinj : XInj X nM) (hZ : ZOK (Zm X)) (N : Nat) (S : S2) (a1 : Int) (out : Int × S2) (hf : f_X11_lifts N S a1 = some out) : MI l X shM nM (Zm X) yX11_lifts cX11_lifts 3 (some .int) rmX11_lifts [.ref (X.2.2 0), .int (iz a1)] S out := by
  refine met_I (own := RX11) (by decide) rfl hinj hZ (Nat.le_of_ble_eq_true rfl) (fun p e s m args below meth c C ls H locs hw hl => ?_)
  unfold f_X11_lifts at hf
  have hl : lv_has ls 3 [(0, .ref (X.2.2 0)), (1, .int (iz a1))] := hl
  refine r_iconst (v := 0) C dX11_lifts_0 ?_
  refine lv_istore_n (lv' := [(2, .int (iz 0)), (0, .ref (X.2.2 0)), (1, .int (iz a1))]) C.1.1 C.1.2.1 dX11_lifts_1 rfl hl (by decide) rfl (fun ls hl => ?_)
  exact (w_X11_lifts_2 l hinj hZ C out (f_X11_lifts_40 N) (w_X11_lifts_40 l hinj hZ C out N) N) a1 0 S H locs ls hf hw (lv_sub hl [1, 2, 0] rfl)
def f_X11_greatest_4 : Nat → Int → Int → S2 → Option (Int × S2)
  | 0, _, _, _ => none
  | N + 1, x1, x2, S => bI (f_X11_many N S) fun v6 S6 => cI x2 v6 (if v6 ≤ x2 then rI x1 S6 else aI S6 8 231 x2 fun v18 => mxI x1 v18 fun v19 => (f_X11_greatest_4 N) v19 (x2 + 1) S6)
def f_X11_greatest (N : Nat) (S : S2) : Option (Int × S2) := (f_X11_greatest_4 N) 0 0 S
abbrev rmX11_greatest : Room := { frames := 1, cells := 0, slots := 0, locals := 21 }
theorem hd_X11_greatest : yX11_greatest.cls ≠ "java/lang/invoke/MethodHandle" ∧ yX11_greatest.cls ≠ "java/lang/invoke/VarHandle" ∧ (parseMethodDescriptor yX11_greatest.desc).map (fun d => d.parameters.length) = some 0 := by decide +kernel
set_option maxRecDepth 100000 in
set_option maxHeartbeats 4000000 in
theorem w_X11_greatest_4 {p : Program} (l : Launch) {e : Env} {s : State} {m : MethodId} {args : Array Value} {below : List Frame} {meth : Method} {c : Code} {X : XT} (hinj : XInj X nM) (hZ : ZOK (Zm X)) (C : CX p s m args meth c cX11_greatest 3 RX11 (some .int) X nM (Zm X)) (out : Int × S2) : ∀ (N : Nat), ∀ (x1 : Int) (x2 : Int) (S : S2) (H : Heap) (locs : List Loc) (ls : Array Slot), f_X11_greatest_4 N x1 x2 S = some out → WH X shM nM s S H locs → lv_has ls 3 [(0, .ref (X.2.2 0)), (1, .int (iz x1)), (2, .int (iz x2))] → W p l e rmX11_greatest s m args below meth c H locs 0 0 (QI X shM nM s args below out) (F0 m 4 ls []) := by
  intro N
  induction N with
  | zero => intro x1 x2 S H locs ls hf hw hl; cases hf
  | succ N ih =>
    intro x1 x2 S H locs ls hf hw hl
    rw [f_X11_greatest_4.eq_2] at hf
    refine lv_iload_n C.1.1 C.1.2.1 dX11_greatest_4 rfl (lv_at hl 2 rfl) ?_
    refine lv_aload_n C.1.1 C.1.2.1 dX11_greatest_5 rfl (lv_at hl 0 rfl) ?_
    refine r_callI (As := []) (rest := [.int (iz x2)]) (rm := rmX11_many) C hw shM_0 ltM_0 cO11 tw6_192 tw6_194 tp_60 tw1_12 tw6_195 hd_X11_many rfl ⟨⟨rfl, rfl⟩, Nat.le_of_ble_eq_true rfl, Nat.le_of_ble_eq_true rfl⟩ hl.1 rfl (Nat.le_of_ble_eq_true rfl) dX11_greatest_6 hf (fun o ho => c_X11_many l X hinj hZ N S o ho) (fun v6 S6 H locs hf hw => ?_)
    refine r_icmp_ge C (tgt := 29) dX11_greatest_9 (by decide) hf (fun hf => ?_) (fun hf => ?_)
    · refine lv_iload_n C.1.1 C.1.2.1 dX11_greatest_29 rfl (lv_at hl 1 rfl) ?_
      exact r_retI C hw dX11_greatest_30 hf
    · refine lv_iload_n C.1.1 C.1.2.1 dX11_greatest_12 rfl (lv_at hl 1 rfl) ?_
      refine lv_aload_n C.1.1 C.1.2.1 dX11_greatest_13 rfl (lv_at hl 0 rfl) ?_
      refine r_getR (k := 22) C hw shM_0 ltM_0 cO11 rfl (by decide) tw5_166 rfl dX11_greatest_14 ?_
      refine lv_iload_n C.1.1 C.1.2.1 dX11_greatest_17 rfl (lv_at hl 2 rfl) ?_
      refine r_iald C hw shM_8 ltM_8 (Nat.le_of_ble_eq_true rfl) dX11_greatest_18 hf (fun v18 hf => ?_)
      refine r_max C tw6_232 tw3_86 tw1_18 tw3_87 hl.1 (Nat.le_of_ble_eq_true rfl) (Nat.le_of_ble_eq_true rfl) dX11_greatest_19 hf (fun v19 hf => ?_)
      refine lv_istore_n (lv' := [(1, .int (iz v19)), (0, .ref (X.2.2 0)), (2, .int (iz x2))]) C.1.1 C.1.2.1 dX11_greatest_22 rfl hl (by decide) rfl (fun ls hl => ?_)
      refine lv_iinc (v := iz (x2 + 1)) (lv' := [(2, .int (iz (x2 + 1))), (1, .int (iz v19)), (0, .ref (X.2.2 0))]) C.1.1 C.1.2.1 dX11_greatest_23 hl (k := 2) rfl (iz_add _ _) (by decide) rfl (fun ls hl => ?_)
      refine lv_goto (tgt := 4) C.1.1 C.1.2.1 dX11_greatest_26 (by decide) ?_
      exact ih v19 (x2 + 1) S6 H locs ls hf hw (lv_sub hl [2, 1, 0] rfl)
set_option maxRecDepth 100000 in
set_option maxHeartbeats 4000000 in
theorem c_X11_greatest (l : Launch) (X : XT) (hinj : XInj X nM) (hZ : ZOK (Zm X)) (N : Nat) (S : S2) (out : Int × S2) (hf : f_X11_greatest N S = some out) : MI l X shM nM (Zm X) yX11_greatest cX11_greatest 3 (some .int) rmX11_greatest [.ref (X.2.2 0)] S out := by
  refine met_I (own := RX11) (by decide) rfl hinj hZ (Nat.le_of_ble_eq_true rfl) (fun p e s m args below meth c C ls H locs hw hl => ?_)
  unfold f_X11_greatest at hf
  have hl : lv_has ls 3 [(0, .ref (X.2.2 0))] := hl
  refine r_iconst (v := 0) C dX11_greatest_0 ?_
  refine lv_istore_n (lv' := [(1, .int (iz 0)), (0, .ref (X.2.2 0))]) C.1.1 C.1.2.1 dX11_greatest_1 rfl hl (by decide) rfl (fun ls hl => ?_)
  refine r_iconst (v := 0) C dX11_greatest_2 ?_
  refine lv_istore_n (lv' := [(2, .int (iz 0)), (1, .int (iz 0)), (0, .ref (X.2.2 0))]) C.1.1 C.1.2.1 dX11_greatest_3 rfl hl (by decide) rfl (fun ls hl => ?_)
  exact (w_X11_greatest_4 l hinj hZ C out N) 0 0 S H locs ls hf hw (lv_sub hl [2, 1, 0] rfl)
def f_X11_scales_38 (N : Nat) (S : S2) : Option (Int × S2) := bI (f_X11_greatest N S) fun v39 S39 => rI v39 S39
def f_X11_scales_2 (k38 : S2 → Option (Int × S2)) : Nat → Int → Int → Int → S2 → Option (Int × S2)
  | 0, _, _, _, _ => none
  | N + 1, x1, x2, x3, S => bI (f_X11_many N S) fun v4 S4 => cI x3 v4 (if v4 ≤ x3 then k38 S4 else aI S4 8 231 x3 fun v23 => dvI (v23 * x1) x2 fun v27 => mnI 999 v27 fun v28 => sI S4 8 231 x3 v28 fun S31 => (f_X11_scales_2 k38 N) x1 x2 (x3 + 1) S31)
def f_X11_scales (N : Nat) (S : S2) (a1 : Int) (a2 : Int) : Option (Int × S2) := (f_X11_scales_2 (f_X11_scales_38 N) N) a1 a2 0 S
abbrev rmX11_scales : Room := { frames := 2, cells := 0, slots := 0, locals := 43 }
theorem hd_X11_scales : yX11_scales.cls ≠ "java/lang/invoke/MethodHandle" ∧ yX11_scales.cls ≠ "java/lang/invoke/VarHandle" ∧ (parseMethodDescriptor yX11_scales.desc).map (fun d => d.parameters.length) = some 2 := by decide +kernel
set_option maxRecDepth 100000 in
set_option maxHeartbeats 4000000 in
theorem w_X11_scales_38 {p : Program} (l : Launch) {e : Env} {s : State} {m : MethodId} {args : Array Value} {below : List Frame} {meth : Method} {c : Code} {X : XT} (hinj : XInj X nM) (hZ : ZOK (Zm X)) (C : CX p s m args meth c cX11_scales 4 RX11 (some .int) X nM (Zm X)) (out : Int × S2) : ∀ (N : Nat), ∀ (S : S2) (H : Heap) (locs : List Loc) (ls : Array Slot), f_X11_scales_38 N S = some out → WH X shM nM s S H locs → lv_has ls 4 [(0, .ref (X.2.2 0))] → W p l e rmX11_scales s m args below meth c H locs 0 0 (QI X shM nM s args below out) (F0 m 38 ls []) := by
  intro N S H locs ls hf hw hl
  unfold f_X11_scales_38 at hf
  refine lv_aload_n C.1.1 C.1.2.1 dX11_scales_38 rfl (lv_at hl 0 rfl) ?_
  refine r_callI (As := []) (rest := []) (rm := rmX11_greatest) C hw shM_0 ltM_0 cO11 tw7_72 tw7_74 tp_87 tw1_12 tw7_75 hd_X11_greatest rfl ⟨⟨rfl, rfl⟩, Nat.le_of_ble_eq_true rfl, Nat.le_of_ble_eq_true rfl⟩ hl.1 rfl (Nat.le_of_ble_eq_true rfl) dX11_scales_39 hf (fun o ho => c_X11_greatest l X hinj hZ N S o ho) (fun v39 S39 H locs hf hw => ?_)
  exact r_retI C hw dX11_scales_42 hf
set_option maxRecDepth 100000 in
set_option maxHeartbeats 4000000 in
theorem w_X11_scales_2 {p : Program} (l : Launch) {e : Env} {s : State} {m : MethodId} {args : Array Value} {below : List Frame} {meth : Method} {c : Code} {X : XT} (hinj : XInj X nM) (hZ : ZOK (Zm X)) (C : CX p s m args meth c cX11_scales 4 RX11 (some .int) X nM (Zm X)) (out : Int × S2) (k38 : S2 → Option (Int × S2)) (hk38 : ∀ (S : S2) (H : Heap) (locs : List Loc) (ls : Array Slot), k38 S = some out → WH X shM nM s S H locs → lv_has ls 4 [(0, .ref (X.2.2 0))] → W p l e rmX11_scales s m args below meth c H locs 0 0 (QI X shM nM s args below out) (F0 m 38 ls [])) : ∀ (N : Nat), ∀ (x1 : Int) (x2 : Int) (x3 : Int) (S : S2) (H : Heap) (locs : List Loc) (ls : Array Slot), f_X11_scales_2 k38 N x1 x2 x3 S = some out → WH X shM nM s S H locs → lv_has ls 4 [(0, .ref (X.2.2 0)), (1, .int (iz x1)), (2, .int (iz x2)), (3, .int (iz x3))] → W p l e rmX11_scales s m args below meth c H locs 0 0 (QI X shM nM s args below out) (F0 m 2 ls []) := by
  intro N
  induction N with
  | zero => intro x1 x2 x3 S H locs ls hf hw hl; cases hf
  | succ N ih =>
    intro x1 x2 x3 S H locs ls hf hw hl
    rw [f_X11_scales_2.eq_2] at hf
    refine lv_iload_n C.1.1 C.1.2.1 dX11_scales_2 rfl (lv_at hl 3 rfl) ?_
    refine lv_aload_n C.1.1 C.1.2.1 dX11_scales_3 rfl (lv_at hl 0 rfl) ?_
    refine r_callI (As := []) (rest := [.int (iz x3)]) (rm := rmX11_many) C hw shM_0 ltM_0 cO11 tw6_192 tw6_194 tp_60 tw1_12 tw6_195 hd_X11_many rfl ⟨⟨rfl, rfl⟩, Nat.le_of_ble_eq_true rfl, Nat.le_of_ble_eq_true rfl⟩ hl.1 rfl (Nat.le_of_ble_eq_true rfl) dX11_scales_4 hf (fun o ho => c_X11_many l X hinj hZ N S o ho) (fun v4 S4 H locs hf hw => ?_)
    refine r_icmp_ge C (tgt := 38) dX11_scales_7 (by decide) hf (fun hf => ?_) (fun hf => ?_)
    · exact hk38 S4 H locs ls hf hw (lv_sub hl [0] rfl)
    · refine lv_aload_n C.1.1 C.1.2.1 dX11_scales_10 rfl (lv_at hl 0 rfl) ?_
      refine r_getR (k := 22) C hw shM_0 ltM_0 cO11 rfl (by decide) tw5_166 rfl dX11_scales_11 ?_
      refine lv_iload_n C.1.1 C.1.2.1 dX11_scales_14 rfl (lv_at hl 3 rfl) ?_
      refine r_sipush (v := 999) C dX11_scales_15 (by decide) ?_
      refine lv_aload_n C.1.1 C.1.2.1 dX11_scales_18 rfl (lv_at hl 0 rfl) ?_
      refine r_getR (k := 22) C hw shM_0 ltM_0 cO11 rfl (by decide) tw5_166 rfl dX11_scales_19 ?_
      refine lv_iload_n C.1.1 C.1.2.1 dX11_scales_22 rfl (lv_at hl 3 rfl) ?_
      refine r_iald C hw shM_8 ltM_8 (Nat.le_of_ble_eq_true rfl) dX11_scales_23 hf (fun v23 hf => ?_)
      refine lv_iload_n C.1.1 C.1.2.1 dX11_scales_24 rfl (lv_at hl 1 rfl) ?_
      refine r_imul C dX11_scales_25 ?_
      refine lv_iload_n C.1.1 C.1.2.1 dX11_scales_26 rfl (lv_at hl 2 rfl) ?_
      refine r_idiv C dX11_scales_27 hf (fun v27 hf => ?_)
      refine r_min C tw6_233 tw3_83 tw1_18 tw3_84 hl.1 (Nat.le_of_ble_eq_true rfl) (Nat.le_of_ble_eq_true rfl) dX11_scales_28 hf (fun v28 hf => ?_)
      refine r_iast C hw shM_8 ltM_8 (Nat.le_of_ble_eq_true rfl) dX11_scales_31 hf (fun S31 H locs hf hw => ?_)
      refine lv_iinc (v := iz (x3 + 1)) (lv' := [(3, .int (iz (x3 + 1))), (0, .ref (X.2.2 0)), (1, .int (iz x1)), (2, .int (iz x2))]) C.1.1 C.1.2.1 dX11_scales_32 hl (k := 3) rfl (iz_add _ _) (by decide) rfl (fun ls hl => ?_)
      refine lv_goto (tgt := 2) C.1.1 C.1.2.1 dX11_scales_35 (by decide) ?_
      exact ih x1 x2 (x3 + 1) S31 H locs ls hf hw (lv_sub hl [1, 2, 3, 0] rfl)
set_option maxRecDepth 100000 in
set_option maxHeartbeats 4000000 in
theorem c_X11_scales (l : Launch) (X : XT) (hinj : XInj X nM) (hZ : ZOK (Zm X)) (N : Nat) (S : S2) (a1 : Int) (a2 : Int) (out : Int × S2) (hf : f_X11_scales N S a1 a2 = some out) : MI l X shM nM (Zm X) yX11_scales cX11_scales 4 (some .int) rmX11_scales [.ref (X.2.2 0), .int (iz a1), .int (iz a2)] S out := by
  refine met_I (own := RX11) (by decide) rfl hinj hZ (Nat.le_of_ble_eq_true rfl) (fun p e s m args below meth c C ls H locs hw hl => ?_)
  unfold f_X11_scales at hf
  have hl : lv_has ls 4 [(0, .ref (X.2.2 0)), (1, .int (iz a1)), (2, .int (iz a2))] := hl
  refine r_iconst (v := 0) C dX11_scales_0 ?_
  refine lv_istore_n (lv' := [(3, .int (iz 0)), (0, .ref (X.2.2 0)), (1, .int (iz a1)), (2, .int (iz a2))]) C.1.1 C.1.2.1 dX11_scales_1 rfl hl (by decide) rfl (fun ls hl => ?_)
  exact (w_X11_scales_2 l hinj hZ C out (f_X11_scales_38 N) (w_X11_scales_38 l hinj hZ C out N) N) a1 a2 0 S H locs ls hf hw (lv_sub hl [1, 2, 3, 0] rfl)
def f_X11_sets (N : Nat) (S : S2) (a1 : Int) (a2 : Int) : Option (Int × S2) := aI S 8 231 a1 fun v5 => sI S 8 231 a1 a2 fun S13 => rI v5 S13
abbrev rmX11_sets : Room := { frames := 0, cells := 0, slots := 0, locals := 0 }
theorem hd_X11_sets : yX11_sets.cls ≠ "java/lang/invoke/MethodHandle" ∧ yX11_sets.cls ≠ "java/lang/invoke/VarHandle" ∧ (parseMethodDescriptor yX11_sets.desc).map (fun d => d.parameters.length) = some 2 := by decide +kernel
set_option maxRecDepth 100000 in
set_option maxHeartbeats 4000000 in
theorem c_X11_sets (l : Launch) (X : XT) (hinj : XInj X nM) (hZ : ZOK (Zm X)) (N : Nat) (S : S2) (a1 : Int) (a2 : Int) (out : Int × S2) (hf : f_X11_sets N S a1 a2 = some out) : MI l X shM nM (Zm X) yX11_sets cX11_sets 4 (some .int) rmX11_sets [.ref (X.2.2 0), .int (iz a1), .int (iz a2)] S out := by
  refine met_I (own := RX11) (by decide) rfl hinj hZ (Nat.le_of_ble_eq_true rfl) (fun p e s m args below meth c C ls H locs hw hl => ?_)
  unfold f_X11_sets at hf
  have hl : lv_has ls 4 [(0, .ref (X.2.2 0)), (1, .int (iz a1)), (2, .int (iz a2))] := hl
  refine lv_aload_n C.1.1 C.1.2.1 dX11_sets_0 rfl (lv_at hl 0 rfl) ?_
  refine r_getR (k := 22) C hw shM_0 ltM_0 cO11 rfl (by decide) tw5_166 rfl dX11_sets_1 ?_
  refine lv_iload_n C.1.1 C.1.2.1 dX11_sets_4 rfl (lv_at hl 1 rfl) ?_
  refine r_iald C hw shM_8 ltM_8 (Nat.le_of_ble_eq_true rfl) dX11_sets_5 hf (fun v5 hf => ?_)
  refine lv_istore_n (lv' := [(3, .int (iz v5)), (0, .ref (X.2.2 0)), (1, .int (iz a1)), (2, .int (iz a2))]) C.1.1 C.1.2.1 dX11_sets_6 rfl hl (by decide) rfl (fun ls hl => ?_)
  refine lv_aload_n C.1.1 C.1.2.1 dX11_sets_7 rfl (lv_at hl 1 rfl) ?_
  refine r_getR (k := 22) C hw shM_0 ltM_0 cO11 rfl (by decide) tw5_166 rfl dX11_sets_8 ?_
  refine lv_iload_n C.1.1 C.1.2.1 dX11_sets_11 rfl (lv_at hl 2 rfl) ?_
  refine lv_iload_n C.1.1 C.1.2.1 dX11_sets_12 rfl (lv_at hl 3 rfl) ?_
  refine r_iast C hw shM_8 ltM_8 (Nat.le_of_ble_eq_true rfl) dX11_sets_13 hf (fun S13 H locs hf hw => ?_)
  refine lv_iload_n C.1.1 C.1.2.1 dX11_sets_14 rfl (lv_at hl 0 rfl) ?_
  exact r_retI C hw dX11_sets_15 hf
def f_X11_cuts_41 (N : Nat) (x2 : Int) (S : S2) : Option (Int × S2) := bI (f_X11_many N S) fun v42 S42 => sI S42 8 231 48 x2 fun S55 => rI (v42 - x2) S55
def f_X11_cuts_34 (k6 : Int → Int → Int → S2 → Option (Int × S2)) (N : Nat) (x1 : Int) (x2 : Int) (x3 : Int) (y0 : Int) (y1 : Int) (S : S2) : Option (Int × S2) := sI S 8 231 y1 y0 fun S34 => k6 x1 x2 (x3 + 1) S34
def f_X11_cuts_6 (k41 : Int → S2 → Option (Int × S2)) : Nat → Int → Int → Int → S2 → Option (Int × S2)
  | 0, _, _, _, _ => none
  | N + 1, x1, x2, x3, S => cI x3 48 (if 48 ≤ x3 then k41 x2 S else cI x3 x2 (if x2 ≤ x3 then (f_X11_cuts_34 (f_X11_cuts_6 k41 N) N) x1 x2 x3 0 x3 S else aI S 22 48 (x1 + x3) fun v29 => (f_X11_cuts_34 (f_X11_cuts_6 k41 N) N) x1 x2 x3 v29 x3 S))
def f_X11_cuts (N : Nat) (S : S2) (a1 : Int) (a2 : Int) : Option (Int × S2) := bV (f_X11_keepWas N S) fun S1 => (f_X11_cuts_6 (f_X11_cuts_41 N) N) a1 a2 0 S1
abbrev rmX11_cuts : Room := { frames := 1, cells := 0, slots := 0, locals := 21 }
theorem hd_X11_cuts : yX11_cuts.cls ≠ "java/lang/invoke/MethodHandle" ∧ yX11_cuts.cls ≠ "java/lang/invoke/VarHandle" ∧ (parseMethodDescriptor yX11_cuts.desc).map (fun d => d.parameters.length) = some 2 := by decide +kernel
set_option maxRecDepth 100000 in
set_option maxHeartbeats 4000000 in
theorem w_X11_cuts_41 {p : Program} (l : Launch) {e : Env} {s : State} {m : MethodId} {args : Array Value} {below : List Frame} {meth : Method} {c : Code} {X : XT} (hinj : XInj X nM) (hZ : ZOK (Zm X)) (C : CX p s m args meth c cX11_cuts 4 RX11 (some .int) X nM (Zm X)) (out : Int × S2) : ∀ (N : Nat), ∀ (x2 : Int) (S : S2) (H : Heap) (locs : List Loc) (ls : Array Slot), f_X11_cuts_41 N x2 S = some out → WH X shM nM s S H locs → lv_has ls 4 [(0, .ref (X.2.2 0)), (2, .int (iz x2))] → W p l e rmX11_cuts s m args below meth c H locs 0 0 (QI X shM nM s args below out) (F0 m 41 ls []) := by
  intro N x2 S H locs ls hf hw hl
  unfold f_X11_cuts_41 at hf
  refine lv_aload_n C.1.1 C.1.2.1 dX11_cuts_41 rfl (lv_at hl 0 rfl) ?_
  refine r_callI (As := []) (rest := []) (rm := rmX11_many) C hw shM_0 ltM_0 cO11 tw6_192 tw6_194 tp_60 tw1_12 tw6_195 hd_X11_many rfl ⟨⟨rfl, rfl⟩, Nat.le_of_ble_eq_true rfl, Nat.le_of_ble_eq_true rfl⟩ hl.1 rfl (Nat.le_of_ble_eq_true rfl) dX11_cuts_42 hf (fun o ho => c_X11_many l X hinj hZ N S o ho) (fun v42 S42 H locs hf hw => ?_)
  refine lv_iload_n C.1.1 C.1.2.1 dX11_cuts_45 rfl (lv_at hl 1 rfl) ?_
  refine r_isub C dX11_cuts_46 ?_
  refine lv_istore_n (lv' := [(3, .int (iz (v42 - x2))), (0, .ref (X.2.2 0)), (2, .int (iz x2))]) C.1.1 C.1.2.1 dX11_cuts_47 rfl hl (by decide) rfl (fun ls hl => ?_)
  refine lv_aload_n C.1.1 C.1.2.1 dX11_cuts_48 rfl (lv_at hl 1 rfl) ?_
  refine r_getR (k := 22) C hw shM_0 ltM_0 cO11 rfl (by decide) tw5_166 rfl dX11_cuts_49 ?_
  refine r_bipush (v := 48) C dX11_cuts_52 (by decide) ?_
  refine lv_iload_n C.1.1 C.1.2.1 dX11_cuts_54 rfl (lv_at hl 2 rfl) ?_
  refine r_iast C hw shM_8 ltM_8 (Nat.le_of_ble_eq_true rfl) dX11_cuts_55 hf (fun S55 H locs hf hw => ?_)
  refine lv_iload_n C.1.1 C.1.2.1 dX11_cuts_56 rfl (lv_at hl 0 rfl) ?_
  exact r_retI C hw dX11_cuts_57 hf
set_option maxRecDepth 100000 in
set_option maxHeartbeats 4000000 in
theorem w_X11_cuts_34 {p : Program} (l : Launch) {e : Env} {s : State} {m : MethodId} {args : Array Value} {below : List Frame} {meth : Method} {c : Code} {X : XT} (hinj : XInj X nM) (hZ : ZOK (Zm X)) (C : CX p s m args meth c cX11_cuts 4 RX11 (some .int) X nM (Zm X)) (out : Int × S2) (k6 : Int → Int → Int → S2 → Option (Int × S2)) (hk6 : ∀ (x1 : Int) (x2 : Int) (x3 : Int) (S : S2) (H : Heap) (locs : List Loc) (ls : Array Slot), k6 x1 x2 x3 S = some out → WH X shM nM s S H locs → lv_has ls 4 [(0, .ref (X.2.2 0)), (1, .int (iz x1)), (2, .int (iz x2)), (3, .int (iz x3))] → W p l e rmX11_cuts s m args below meth c H locs 0 0 (QI X shM nM s args below out) (F0 m 6 ls [])) : ∀ (N : Nat), ∀ (x1 : Int) (x2 : Int) (x3 : Int) (y0 : Int) (y1 : Int) (S : S2) (H : Heap) (locs : List Loc) (ls : Array Slot), f_X11_cuts_34 k6 N x1 x2 x3 y0 y1 S = some out → WH X shM nM s S H locs → lv_has ls 4 [(0, .ref (X.2.2 0)), (1, .int (iz x1)), (2, .int (iz x2)), (3, .int (iz x3))] → W p l e rmX11_cuts s m args below meth c H locs 0 0 (QI X shM nM s args below out) (F0 m 34 ls [.int (iz y0), .int (iz y1), .ref (X.2.2 8)]) := by
  intro N x1 x2 x3 y0 y1 S H locs ls hf hw hl
  unfold f_X11_cuts_34 at hf
  refine r_iast C hw shM_8 ltM_8 (Nat.le_of_ble_eq_true rfl) dX11_cuts_34 hf (fun S34 H locs hf hw => ?_)
  refine lv_iinc (v := iz (x3 + 1)) (lv' := [(3, .int (iz (x3 + 1))), (0, .ref (X.2.2 0)), (1, .int (iz x1)), (2, .int (iz x2))]) C.1.1 C.1.2.1 dX11_cuts_35 hl (k := 3) rfl (iz_add _ _) (by decide) rfl (fun ls hl => ?_)
  refine lv_goto (tgt := 6) C.1.1 C.1.2.1 dX11_cuts_38 (by decide) ?_
  exact hk6 x1 x2 (x3 + 1) S34 H locs ls hf hw (lv_sub hl [1, 2, 3, 0] rfl)
set_option maxRecDepth 100000 in
set_option maxHeartbeats 4000000 in
theorem w_X11_cuts_6 {p : Program} (l : Launch) {e : Env} {s : State} {m : MethodId} {args : Array Value} {below : List Frame} {meth : Method} {c : Code} {X : XT} (hinj : XInj X nM) (hZ : ZOK (Zm X)) (C : CX p s m args meth c cX11_cuts 4 RX11 (some .int) X nM (Zm X)) (out : Int × S2) (k41 : Int → S2 → Option (Int × S2)) (hk41 : ∀ (x2 : Int) (S : S2) (H : Heap) (locs : List Loc) (ls : Array Slot), k41 x2 S = some out → WH X shM nM s S H locs → lv_has ls 4 [(0, .ref (X.2.2 0)), (2, .int (iz x2))] → W p l e rmX11_cuts s m args below meth c H locs 0 0 (QI X shM nM s args below out) (F0 m 41 ls [])) : ∀ (N : Nat), ∀ (x1 : Int) (x2 : Int) (x3 : Int) (S : S2) (H : Heap) (locs : List Loc) (ls : Array Slot), f_X11_cuts_6 k41 N x1 x2 x3 S = some out → WH X shM nM s S H locs → lv_has ls 4 [(0, .ref (X.2.2 0)), (1, .int (iz x1)), (2, .int (iz x2)), (3, .int (iz x3))] → W p l e rmX11_cuts s m args below meth c H locs 0 0 (QI X shM nM s args below out) (F0 m 6 ls []) := by
  intro N
  induction N with
  | zero => intro x1 x2 x3 S H locs ls hf hw hl; cases hf
  | succ N ih =>
    intro x1 x2 x3 S H locs ls hf hw hl
    rw [f_X11_cuts_6.eq_2] at hf
    refine lv_iload_n C.1.1 C.1.2.1 dX11_cuts_6 rfl (lv_at hl 3 rfl) ?_
    refine r_bipush (v := 48) C dX11_cuts_7 (by decide) ?_
    refine r_icmp_ge C (tgt := 41) dX11_cuts_9 (by decide) hf (fun hf => ?_) (fun hf => ?_)
    · exact hk41 x2 S H locs ls hf hw (lv_sub hl [0, 2] rfl)
    · refine lv_aload_n C.1.1 C.1.2.1 dX11_cuts_12 rfl (lv_at hl 0 rfl) ?_
      refine r_getR (k := 22) C hw shM_0 ltM_0 cO11 rfl (by decide) tw5_166 rfl dX11_cuts_13 ?_
      refine lv_iload_n C.1.1 C.1.2.1 dX11_cuts_16 rfl (lv_at hl 3 rfl) ?_
      refine lv_iload_n C.1.1 C.1.2.1 dX11_cuts_17 rfl (lv_at hl 3 rfl) ?_
      refine lv_iload_n C.1.1 C.1.2.1 dX11_cuts_18 rfl (lv_at hl 2 rfl) ?_
      refine r_icmp_ge C (tgt := 33) dX11_cuts_19 (by decide) hf (fun hf => ?_) (fun hf => ?_)
      · refine r_iconst (v := 0) C dX11_cuts_33 ?_
        exact (w_X11_cuts_34 l hinj hZ C out (f_X11_cuts_6 k41 N) ih N) x1 x2 x3 0 x3 S H locs ls hf hw (lv_sub hl [0, 1, 2, 3] rfl)
      · refine lv_aload_n C.1.1 C.1.2.1 dX11_cuts_22 rfl (lv_at hl 0 rfl) ?_
        refine r_getR (k := 42) C hw shM_0 ltM_0 cO11 rfl (by decide) tw5_186 rfl dX11_cuts_23 ?_
        refine lv_iload_n C.1.1 C.1.2.1 dX11_cuts_26 rfl (lv_at hl 1 rfl) ?_
        refine lv_iload_n C.1.1 C.1.2.1 dX11_cuts_27 rfl (lv_at hl 3 rfl) ?_
        refine r_iadd C dX11_cuts_28 ?_
        refine r_iald C hw shM_22 ltM_22 (Nat.le_of_ble_eq_true rfl) dX11_cuts_29 hf (fun v29 hf => ?_)
        refine lv_goto (tgt := 34) C.1.1 C.1.2.1 dX11_cuts_30 (by decide) ?_
        exact (w_X11_cuts_34 l hinj hZ C out (f_X11_cuts_6 k41 N) ih N) x1 x2 x3 v29 x3 S H locs ls hf hw (lv_sub hl [0, 1, 2, 3] rfl)
set_option maxRecDepth 100000 in
set_option maxHeartbeats 4000000 in
theorem c_X11_cuts (l : Launch) (X : XT) (hinj : XInj X nM) (hZ : ZOK (Zm X)) (N : Nat) (S : S2) (a1 : Int) (a2 : Int) (out : Int × S2) (hf : f_X11_cuts N S a1 a2 = some out) : MI l X shM nM (Zm X) yX11_cuts cX11_cuts 4 (some .int) rmX11_cuts [.ref (X.2.2 0), .int (iz a1), .int (iz a2)] S out := by
  refine met_I (own := RX11) (by decide) rfl hinj hZ (Nat.le_of_ble_eq_true rfl) (fun p e s m args below meth c C ls H locs hw hl => ?_)
  unfold f_X11_cuts at hf
  have hl : lv_has ls 4 [(0, .ref (X.2.2 0)), (1, .int (iz a1)), (2, .int (iz a2))] := hl
  refine lv_aload_n C.1.1 C.1.2.1 dX11_cuts_0 rfl (lv_at hl 0 rfl) ?_
  refine r_callV (As := []) (rest := []) (rm := rmX11_keepWas) C hw shM_0 ltM_0 cO11 tw6_228 tw6_230 tp_68 tw1_12 tw6_231 hd_X11_keepWas rfl ⟨⟨rfl, rfl⟩, Nat.le_of_ble_eq_true rfl, Nat.le_of_ble_eq_true rfl⟩ hl.1 rfl (Nat.le_of_ble_eq_true rfl) dX11_cuts_1 hf (fun o ho => c_X11_keepWas l X hinj hZ N S o ho) (fun S1 H locs hf hw => ?_)
  refine r_iconst (v := 0) C dX11_cuts_4 ?_
  refine lv_istore_n (lv' := [(3, .int (iz 0)), (0, .ref (X.2.2 0)), (1, .int (iz a1)), (2, .int (iz a2))]) C.1.1 C.1.2.1 dX11_cuts_5 rfl hl (by decide) rfl (fun ls hl => ?_)
  exact (w_X11_cuts_6 l hinj hZ C out (f_X11_cuts_41 N) (w_X11_cuts_41 l hinj hZ C out N) N) a1 a2 0 S1 H locs ls hf hw (lv_sub hl [1, 2, 3, 0] rfl)
def f_X11_whyNot (N : Nat) (S : S2) (a1 : Int) (a2 : Int) (a3 : Int) : Option (Int × S2) := gI S 0 29 fun v1 => cI v1 0 (if v1 = 0 then rI 0 S else cI a1 0 (if a1 = 4 then bI (f_X11_in N S a2 0 999) fun v53 S53 => cI v53 0 (if v53 = 0 then rI 1 S53 else rI (-1) S53) else (if a1 = 5 then bI (f_X11_in N S a2 (-999) 999) fun v72 S72 => cI v72 0 (if v72 = 0 then rI 1 S72 else rI (-1) S72) else (if a1 = 6 then bI (f_X11_in N S a2 0 99) fun v88 S88 => cI v88 0 (if v88 = 0 then rI 1 S88 else bI (f_X11_in N S88 a3 1 99) fun v98 S98 => cI v98 0 (if v98 = 0 then rI 1 S98 else rI (-1) S98)) else (if a1 = 7 then bI (f_X11_isPlace N S a2) fun v112 S112 => cI v112 0 (if v112 = 0 then rI 0 S112 else bI (f_X11_in N S112 a3 0 999) fun v127 S127 => cI v127 0 (if v127 = 0 then rI 1 S127 else rI (-1) S127)) else (if a1 = 8 then bI (f_X11_in N S a2 0 999) fun v53 S53 => cI v53 0 (if v53 = 0 then rI 1 S53 else rI (-1) S53) else (if a1 = 9 then bI (f_X11_isPlace N S a2) fun v141 S141 => cI v141 0 (if v141 = 0 then rI 0 S141 else bI (f_X11_many N S141) fun v154 S154 => bI (f_X11_in N S154 a3 1 (v154 - a2)) fun v159 S159 => cI v159 0 (if v159 = 0 then rI 1 S159 else rI (-1) S159)) else rI (-1) S)))))))
abbrev rmX11_whyNot : Room := { frames := 2, cells := 0, slots := 0, locals := 43 }
theorem hd_X11_whyNot : yX11_whyNot.cls ≠ "java/lang/invoke/MethodHandle" ∧ yX11_whyNot.cls ≠ "java/lang/invoke/VarHandle" ∧ (parseMethodDescriptor yX11_whyNot.desc).map (fun d => d.parameters.length) = some 3 := by decide +kernel
set_option maxRecDepth 100000 in
set_option maxHeartbeats 4000000 in
theorem c_X11_whyNot (l : Launch) (X : XT) (hinj : XInj X nM) (hZ : ZOK (Zm X)) (N : Nat) (S : S2) (a1 : Int) (a2 : Int) (a3 : Int) (out : Int × S2) (hf : f_X11_whyNot N S a1 a2 a3 = some out) : MI l X shM nM (Zm X) yX11_whyNot cX11_whyNot 4 (some .int) rmX11_whyNot [.ref (X.2.2 0), .int (iz a1), .int (iz a2), .int (iz a3)] S out := by
  refine met_I (own := RX11) (by decide) rfl hinj hZ (Nat.le_of_ble_eq_true rfl) (fun p e s m args below meth c C ls H locs hw hl => ?_)
  unfold f_X11_whyNot at hf
  have hl : lv_has ls 4 [(0, .ref (X.2.2 0)), (1, .int (iz a1)), (2, .int (iz a2)), (3, .int (iz a3))] := hl
  refine lv_aload_n C.1.1 C.1.2.1 dX11_whyNot_0 rfl (lv_at hl 0 rfl) ?_
  refine r_getI (k := 29) C hw shM_0 ltM_0 cO11 rfl (by decide) tw5_173 rfl dX11_whyNot_1 hf (fun v1 hf => ?_)
  refine r_if_ne C (tgt := 9) dX11_whyNot_4 (by decide) hf (fun hf => ?_) (fun hf => ?_)
  · refine lv_iload_n C.1.1 C.1.2.1 dX11_whyNot_9 rfl (lv_at hl 1 rfl) ?_
    obtain ⟨⟨hsw, -⟩, hf⟩ := cI_some hf
    rcases ite_some hf with ⟨hc10_4, hf⟩ | ⟨hc10_4, hf⟩
    · refine lv_tableIn (tgt := 48) C.1.1 C.1.2.1 dX11_whyNot_10 (by rw [hc10_4]; decide) (by rw [hc10_4]; decide) (by rw [hc10_4]; rfl) (by decide) ?_
      refine lv_iload_n C.1.1 C.1.2.1 dX11_whyNot_48 rfl (lv_at hl 2 rfl) ?_
      refine r_iconst (v := 0) C dX11_whyNot_49 ?_
      refine r_sipush (v := 999) C dX11_whyNot_50 (by decide) ?_
      refine r_scallI (As := [.int (iz a2), .int (iz 0), .int (iz 999)]) (rest := []) (rm := rmX11_in) C hw tw6_77 tw6_78 tw1_12 tw6_79 hd_X11_in rfl ⟨⟨rfl, rfl⟩, Nat.le_of_ble_eq_true rfl, Nat.le_of_ble_eq_true rfl⟩ hl.1 rfl (Nat.le_of_ble_eq_true rfl) dX11_whyNot_53 hf (fun o ho => c_X11_in l X hinj hZ N S a2 0 999 o ho) (fun v53 S53 H locs hf hw => ?_)
      refine r_if_eq C (tgt := 63) dX11_whyNot_56 (by decide) hf (fun hf => ?_) (fun hf => ?_)
      · refine r_iconst (v := 1) C dX11_whyNot_63 ?_
        exact r_retI C hw dX11_whyNot_64 hf
      · refine r_iconst (v := (-1)) C dX11_whyNot_59 ?_
        refine lv_goto (tgt := 64) C.1.1 C.1.2.1 dX11_whyNot_60 (by decide) ?_
        exact r_retI C hw dX11_whyNot_64 hf
    · skip
      rcases ite_some hf with ⟨hc10_5, hf⟩ | ⟨hc10_5, hf⟩
      · refine lv_tableIn (tgt := 65) C.1.1 C.1.2.1 dX11_whyNot_10 (by rw [hc10_5]; decide) (by rw [hc10_5]; decide) (by rw [hc10_5]; rfl) (by decide) ?_
        refine lv_iload_n C.1.1 C.1.2.1 dX11_whyNot_65 rfl (lv_at hl 2 rfl) ?_
        refine r_sipush (v := (-999)) C dX11_whyNot_66 (by decide) ?_
        refine r_sipush (v := 999) C dX11_whyNot_69 (by decide) ?_
        refine r_scallI (As := [.int (iz a2), .int (iz (-999)), .int (iz 999)]) (rest := []) (rm := rmX11_in) C hw tw6_77 tw6_78 tw1_12 tw6_79 hd_X11_in rfl ⟨⟨rfl, rfl⟩, Nat.le_of_ble_eq_true rfl, Nat.le_of_ble_eq_true rfl⟩ hl.1 rfl (Nat.le_of_ble_eq_true rfl) dX11_whyNot_72 hf (fun o ho => c_X11_in l X hinj hZ N S a2 (-999) 999 o ho) (fun v72 S72 H locs hf hw => ?_)
        refine r_if_eq C (tgt := 82) dX11_whyNot_75 (by decide) hf (fun hf => ?_) (fun hf => ?_)
        · refine r_iconst (v := 1) C dX11_whyNot_82 ?_
          exact r_retI C hw dX11_whyNot_83 hf
        · refine r_iconst (v := (-1)) C dX11_whyNot_78 ?_
          refine lv_goto (tgt := 83) C.1.1 C.1.2.1 dX11_whyNot_79 (by decide) ?_
          exact r_retI C hw dX11_whyNot_83 hf
      · skip
        rcases ite_some hf with ⟨hc10_6, hf⟩ | ⟨hc10_6, hf⟩
        · refine lv_tableIn (tgt := 84) C.1.1 C.1.2.1 dX11_whyNot_10 (by rw [hc10_6]; decide) (by rw [hc10_6]; decide) (by rw [hc10_6]; rfl) (by decide) ?_
          refine lv_iload_n C.1.1 C.1.2.1 dX11_whyNot_84 rfl (lv_at hl 2 rfl) ?_
          refine r_iconst (v := 0) C dX11_whyNot_85 ?_
          refine r_bipush (v := 99) C dX11_whyNot_86 (by decide) ?_
          refine r_scallI (As := [.int (iz a2), .int (iz 0), .int (iz 99)]) (rest := []) (rm := rmX11_in) C hw tw6_77 tw6_78 tw1_12 tw6_79 hd_X11_in rfl ⟨⟨rfl, rfl⟩, Nat.le_of_ble_eq_true rfl, Nat.le_of_ble_eq_true rfl⟩ hl.1 rfl (Nat.le_of_ble_eq_true rfl) dX11_whyNot_88 hf (fun o ho => c_X11_in l X hinj hZ N S a2 0 99 o ho) (fun v88 S88 H locs hf hw => ?_)
          refine r_if_eq C (tgt := 108) dX11_whyNot_91 (by decide) hf (fun hf => ?_) (fun hf => ?_)
          · refine r_iconst (v := 1) C dX11_whyNot_108 ?_
            exact r_retI C hw dX11_whyNot_109 hf
          · refine lv_iload_n C.1.1 C.1.2.1 dX11_whyNot_94 rfl (lv_at hl 3 rfl) ?_
            refine r_iconst (v := 1) C dX11_whyNot_95 ?_
            refine r_bipush (v := 99) C dX11_whyNot_96 (by decide) ?_
            refine r_scallI (As := [.int (iz a3), .int (iz 1), .int (iz 99)]) (rest := []) (rm := rmX11_in) C hw tw6_77 tw6_78 tw1_12 tw6_79 hd_X11_in rfl ⟨⟨rfl, rfl⟩, Nat.le_of_ble_eq_true rfl, Nat.le_of_ble_eq_true rfl⟩ hl.1 rfl (Nat.le_of_ble_eq_true rfl) dX11_whyNot_98 hf (fun o ho => c_X11_in l X hinj hZ N S88 a3 1 99 o ho) (fun v98 S98 H locs hf hw => ?_)
            refine r_if_eq C (tgt := 108) dX11_whyNot_101 (by decide) hf (fun hf => ?_) (fun hf => ?_)
            · refine r_iconst (v := 1) C dX11_whyNot_108 ?_
              exact r_retI C hw dX11_whyNot_109 hf
            · refine r_iconst (v := (-1)) C dX11_whyNot_104 ?_
              refine lv_goto (tgt := 109) C.1.1 C.1.2.1 dX11_whyNot_105 (by decide) ?_
              exact r_retI C hw dX11_whyNot_109 hf
        · skip
          rcases ite_some hf with ⟨hc10_7, hf⟩ | ⟨hc10_7, hf⟩
          · refine lv_tableIn (tgt := 110) C.1.1 C.1.2.1 dX11_whyNot_10 (by rw [hc10_7]; decide) (by rw [hc10_7]; decide) (by rw [hc10_7]; rfl) (by decide) ?_
            refine lv_aload_n C.1.1 C.1.2.1 dX11_whyNot_110 rfl (lv_at hl 0 rfl) ?_
            refine lv_iload_n C.1.1 C.1.2.1 dX11_whyNot_111 rfl (lv_at hl 2 rfl) ?_
            refine r_callI (As := [.int (iz a2)]) (rest := []) (rm := rmX11_isPlace) C hw shM_0 ltM_0 cO11 tw6_208 tw6_210 tp_63 tw1_12 tw6_211 hd_X11_isPlace rfl ⟨⟨rfl, rfl⟩, Nat.le_of_ble_eq_true rfl, Nat.le_of_ble_eq_true rfl⟩ hl.1 rfl (Nat.le_of_ble_eq_true rfl) dX11_whyNot_112 hf (fun o ho => c_X11_isPlace l X hinj hZ N S a2 o ho) (fun v112 S112 H locs hf hw => ?_)
            refine r_if_ne C (tgt := 122) dX11_whyNot_115 (by decide) hf (fun hf => ?_) (fun hf => ?_)
            · refine lv_iload_n C.1.1 C.1.2.1 dX11_whyNot_122 rfl (lv_at hl 3 rfl) ?_
              refine r_iconst (v := 0) C dX11_whyNot_123 ?_
              refine r_sipush (v := 999) C dX11_whyNot_124 (by decide) ?_
              refine r_scallI (As := [.int (iz a3), .int (iz 0), .int (iz 999)]) (rest := []) (rm := rmX11_in) C hw tw6_77 tw6_78 tw1_12 tw6_79 hd_X11_in rfl ⟨⟨rfl, rfl⟩, Nat.le_of_ble_eq_true rfl, Nat.le_of_ble_eq_true rfl⟩ hl.1 rfl (Nat.le_of_ble_eq_true rfl) dX11_whyNot_127 hf (fun o ho => c_X11_in l X hinj hZ N S112 a3 0 999 o ho) (fun v127 S127 H locs hf hw => ?_)
              refine r_if_eq C (tgt := 137) dX11_whyNot_130 (by decide) hf (fun hf => ?_) (fun hf => ?_)
              · refine r_iconst (v := 1) C dX11_whyNot_137 ?_
                exact r_retI C hw dX11_whyNot_138 hf
              · refine r_iconst (v := (-1)) C dX11_whyNot_133 ?_
                refine lv_goto (tgt := 138) C.1.1 C.1.2.1 dX11_whyNot_134 (by decide) ?_
                exact r_retI C hw dX11_whyNot_138 hf
            · refine r_iconst (v := 0) C dX11_whyNot_118 ?_
              refine lv_goto (tgt := 138) C.1.1 C.1.2.1 dX11_whyNot_119 (by decide) ?_
              exact r_retI C hw dX11_whyNot_138 hf
          · skip
            rcases ite_some hf with ⟨hc10_8, hf⟩ | ⟨hc10_8, hf⟩
            · refine lv_tableIn (tgt := 48) C.1.1 C.1.2.1 dX11_whyNot_10 (by rw [hc10_8]; decide) (by rw [hc10_8]; decide) (by rw [hc10_8]; rfl) (by decide) ?_
              refine lv_iload_n C.1.1 C.1.2.1 dX11_whyNot_48 rfl (lv_at hl 2 rfl) ?_
              refine r_iconst (v := 0) C dX11_whyNot_49 ?_
              refine r_sipush (v := 999) C dX11_whyNot_50 (by decide) ?_
              refine r_scallI (As := [.int (iz a2), .int (iz 0), .int (iz 999)]) (rest := []) (rm := rmX11_in) C hw tw6_77 tw6_78 tw1_12 tw6_79 hd_X11_in rfl ⟨⟨rfl, rfl⟩, Nat.le_of_ble_eq_true rfl, Nat.le_of_ble_eq_true rfl⟩ hl.1 rfl (Nat.le_of_ble_eq_true rfl) dX11_whyNot_53 hf (fun o ho => c_X11_in l X hinj hZ N S a2 0 999 o ho) (fun v53 S53 H locs hf hw => ?_)
              refine r_if_eq C (tgt := 63) dX11_whyNot_56 (by decide) hf (fun hf => ?_) (fun hf => ?_)
              · refine r_iconst (v := 1) C dX11_whyNot_63 ?_
                exact r_retI C hw dX11_whyNot_64 hf
              · refine r_iconst (v := (-1)) C dX11_whyNot_59 ?_
                refine lv_goto (tgt := 64) C.1.1 C.1.2.1 dX11_whyNot_60 (by decide) ?_
                exact r_retI C hw dX11_whyNot_64 hf
            · skip
              rcases ite_some hf with ⟨hc10_9, hf⟩ | ⟨hc10_9, hf⟩
              · refine lv_tableIn (tgt := 139) C.1.1 C.1.2.1 dX11_whyNot_10 (by rw [hc10_9]; decide) (by rw [hc10_9]; decide) (by rw [hc10_9]; rfl) (by decide) ?_
                refine lv_aload_n C.1.1 C.1.2.1 dX11_whyNot_139 rfl (lv_at hl 0 rfl) ?_
                refine lv_iload_n C.1.1 C.1.2.1 dX11_whyNot_140 rfl (lv_at hl 2 rfl) ?_
                refine r_callI (As := [.int (iz a2)]) (rest := []) (rm := rmX11_isPlace) C hw shM_0 ltM_0 cO11 tw6_208 tw6_210 tp_63 tw1_12 tw6_211 hd_X11_isPlace rfl ⟨⟨rfl, rfl⟩, Nat.le_of_ble_eq_true rfl, Nat.le_of_ble_eq_true rfl⟩ hl.1 rfl (Nat.le_of_ble_eq_true rfl) dX11_whyNot_141 hf (fun o ho => c_X11_isPlace l X hinj hZ N S a2 o ho) (fun v141 S141 H locs hf hw => ?_)
                refine r_if_ne C (tgt := 151) dX11_whyNot_144 (by decide) hf (fun hf => ?_) (fun hf => ?_)
                · refine lv_iload_n C.1.1 C.1.2.1 dX11_whyNot_151 rfl (lv_at hl 3 rfl) ?_
                  refine r_iconst (v := 1) C dX11_whyNot_152 ?_
                  refine lv_aload_n C.1.1 C.1.2.1 dX11_whyNot_153 rfl (lv_at hl 0 rfl) ?_
                  refine r_callI (As := []) (rest := [.int (iz 1), .int (iz a3)]) (rm := rmX11_many) C hw shM_0 ltM_0 cO11 tw6_192 tw6_194 tp_60 tw1_12 tw6_195 hd_X11_many rfl ⟨⟨rfl, rfl⟩, Nat.le_of_ble_eq_true rfl, Nat.le_of_ble_eq_true rfl⟩ hl.1 rfl (Nat.le_of_ble_eq_true rfl) dX11_whyNot_154 hf (fun o ho => c_X11_many l X hinj hZ N S141 o ho) (fun v154 S154 H locs hf hw => ?_)
                  refine lv_iload_n C.1.1 C.1.2.1 dX11_whyNot_157 rfl (lv_at hl 2 rfl) ?_
                  refine r_isub C dX11_whyNot_158 ?_
                  refine r_scallI (As := [.int (iz a3), .int (iz 1), .int (iz (v154 - a2))]) (rest := []) (rm := rmX11_in) C hw tw6_77 tw6_78 tw1_12 tw6_79 hd_X11_in rfl ⟨⟨rfl, rfl⟩, Nat.le_of_ble_eq_true rfl, Nat.le_of_ble_eq_true rfl⟩ hl.1 rfl (Nat.le_of_ble_eq_true rfl) dX11_whyNot_159 hf (fun o ho => c_X11_in l X hinj hZ N S154 a3 1 (v154 - a2) o ho) (fun v159 S159 H locs hf hw => ?_)
                  refine r_if_eq C (tgt := 169) dX11_whyNot_162 (by decide) hf (fun hf => ?_) (fun hf => ?_)
                  · refine r_iconst (v := 1) C dX11_whyNot_169 ?_
                    exact r_retI C hw dX11_whyNot_170 hf
                  · refine r_iconst (v := (-1)) C dX11_whyNot_165 ?_
                    refine lv_goto (tgt := 170) C.1.1 C.1.2.1 dX11_whyNot_166 (by decide) ?_
                    exact r_retI C hw dX11_whyNot_170 hf
                · refine r_iconst (v := 0) C dX11_whyNot_147 ?_
                  refine lv_goto (tgt := 170) C.1.1 C.1.2.1 dX11_whyNot_148 (by decide) ?_
                  exact r_retI C hw dX11_whyNot_170 hf
              · skip
                refine lv_tableOut (tgt := 171) C.1.1 C.1.2.1 dX11_whyNot_10 (by rw [sw_in hsw]; omega) (by decide) ?_
                refine r_iconst (v := (-1)) C dX11_whyNot_171 ?_
                exact r_retI C hw dX11_whyNot_172 hf
  · refine r_iconst (v := 0) C dX11_whyNot_7 ?_
    exact r_retI C hw dX11_whyNot_8 hf
def f_X11_keep_88 (N : Nat) (S : S2) : Option (S2) := gI S 0 44 fun v90 => uI S 0 44 (v90 + 1) fun S95 => rV S95
def f_X11_keep_54 (k88 : S2 → Option (S2)) : Nat → Int → S2 → Option (S2)
  | 0, _, _ => none
  | N + 1, x1, S => cI x1 231 (if 231 ≤ x1 then k88 S else gI S 0 44 fun v69 => aI S 8 231 x1 fun v80 => sI S 23 9240 ((231 * v69) + x1) v80 fun S81 => (f_X11_keep_54 k88 N) (x1 + 1) S81)
def f_X11_keep_52 (N : Nat) (S : S2) : Option (S2) := (f_X11_keep_54 (f_X11_keep_88 N) N) 0 S
def f_X11_keep_42 (N : Nat) (S : S2) : Option (S2) := gI S 0 44 fun v44 => uI S 0 44 (v44 - 1) fun S49 => (f_X11_keep_52 N) S49
def f_X11_keep_13 (k42 : S2 → Option (S2)) : Nat → Int → S2 → Option (S2)
  | 0, _, _ => none
  | N + 1, x1, S => cI x1 9240 (if 9240 ≤ x1 then k42 S else aI S 23 9240 x1 fun v34 => sI S 23 9240 (x1 - 231) v34 fun S35 => (f_X11_keep_13 k42 N) (x1 + 1) S35)
def f_X11_keep (N : Nat) (S : S2) : Option (S2) := gI S 0 44 fun v1 => cI v1 40 (if v1 = 40 then (f_X11_keep_13 (f_X11_keep_42 N) N) 231 S else (f_X11_keep_52 N) S)
abbrev rmX11_keep : Room := { frames := 0, cells := 0, slots := 0, locals := 0 }
theorem hd_X11_keep : yX11_keep.cls ≠ "java/lang/invoke/MethodHandle" ∧ yX11_keep.cls ≠ "java/lang/invoke/VarHandle" ∧ (parseMethodDescriptor yX11_keep.desc).map (fun d => d.parameters.length) = some 0 := by decide +kernel
set_option maxRecDepth 100000 in
set_option maxHeartbeats 4000000 in
theorem w_X11_keep_88 {p : Program} (l : Launch) {e : Env} {s : State} {m : MethodId} {args : Array Value} {below : List Frame} {meth : Method} {c : Code} {X : XT} (hinj : XInj X nM) (hZ : ZOK (Zm X)) (C : CX p s m args meth c cX11_keep 2 RX11 none X nM (Zm X)) (out : S2) : ∀ (N : Nat), ∀ (S : S2) (H : Heap) (locs : List Loc) (ls : Array Slot), f_X11_keep_88 N S = some out → WH X shM nM s S H locs → lv_has ls 2 [(0, .ref (X.2.2 0))] → W p l e rmX11_keep s m args below meth c H locs 0 0 (QV X shM nM s args below out) (F0 m 88 ls []) := by
  intro N S H locs ls hf hw hl
  unfold f_X11_keep_88 at hf
  refine lv_aload_n C.1.1 C.1.2.1 dX11_keep_88 rfl (lv_at hl 0 rfl) ?_
  refine lv_dup C.1.1 C.1.2.1 dX11_keep_89 rfl ?_
  refine r_getI (k := 44) C hw shM_0 ltM_0 cO11 rfl (by decide) tw5_188 rfl dX11_keep_90 hf (fun v90 hf => ?_)
  refine r_iconst (v := 1) C dX11_keep_93 ?_
  refine r_iadd C dX11_keep_94 ?_
  refine r_putI (k := 44) C hw shM_0 ltM_0 cO11 rfl (by decide) tw5_188 rfl rfl rfl dX11_keep_95 hf (fun S95 H locs hf hw => ?_)
  exact r_retV C hw dX11_keep_98 hf
set_option maxRecDepth 100000 in
set_option maxHeartbeats 4000000 in
theorem w_X11_keep_54 {p : Program} (l : Launch) {e : Env} {s : State} {m : MethodId} {args : Array Value} {below : List Frame} {meth : Method} {c : Code} {X : XT} (hinj : XInj X nM) (hZ : ZOK (Zm X)) (C : CX p s m args meth c cX11_keep 2 RX11 none X nM (Zm X)) (out : S2) (k88 : S2 → Option (S2)) (hk88 : ∀ (S : S2) (H : Heap) (locs : List Loc) (ls : Array Slot), k88 S = some out → WH X shM nM s S H locs → lv_has ls 2 [(0, .ref (X.2.2 0))] → W p l e rmX11_keep s m args below meth c H locs 0 0 (QV X shM nM s args below out) (F0 m 88 ls [])) : ∀ (N : Nat), ∀ (x1 : Int) (S : S2) (H : Heap) (locs : List Loc) (ls : Array Slot), f_X11_keep_54 k88 N x1 S = some out → WH X shM nM s S H locs → lv_has ls 2 [(0, .ref (X.2.2 0)), (1, .int (iz x1))] → W p l e rmX11_keep s m args below meth c H locs 0 0 (QV X shM nM s args below out) (F0 m 54 ls []) := by
  intro N
  induction N with
  | zero => intro x1 S H locs ls hf hw hl; cases hf
  | succ N ih =>
    intro x1 S H locs ls hf hw hl
    rw [f_X11_keep_54.eq_2] at hf
    refine lv_iload_n C.1.1 C.1.2.1 dX11_keep_54 rfl (lv_at hl 1 rfl) ?_
    refine r_sipush (v := 231) C dX11_keep_55 (by decide) ?_
    refine r_icmp_ge C (tgt := 88) dX11_keep_58 (by decide) hf (fun hf => ?_) (fun hf => ?_)
    · exact hk88 S H locs ls hf hw (lv_sub hl [0] rfl)
    · refine lv_aload_n C.1.1 C.1.2.1 dX11_keep_61 rfl (lv_at hl 0 rfl) ?_
      refine r_getR (k := 43) C hw shM_0 ltM_0 cO11 rfl (by decide) tw5_187 rfl dX11_keep_62 ?_
      refine r_sipush (v := 231) C dX11_keep_65 (by decide) ?_
      refine lv_aload_n C.1.1 C.1.2.1 dX11_keep_68 rfl (lv_at hl 0 rfl) ?_
      refine r_getI (k := 44) C hw shM_0 ltM_0 cO11 rfl (by decide) tw5_188 rfl dX11_keep_69 hf (fun v69 hf => ?_)
      refine r_imul C dX11_keep_72 ?_
      refine lv_iload_n C.1.1 C.1.2.1 dX11_keep_73 rfl (lv_at hl 1 rfl) ?_
      refine r_iadd C dX11_keep_74 ?_
      refine lv_aload_n C.1.1 C.1.2.1 dX11_keep_75 rfl (lv_at hl 0 rfl) ?_
      refine r_getR (k := 22) C hw shM_0 ltM_0 cO11 rfl (by decide) tw5_166 rfl dX11_keep_76 ?_
      refine lv_iload_n C.1.1 C.1.2.1 dX11_keep_79 rfl (lv_at hl 1 rfl) ?_
      refine r_iald C hw shM_8 ltM_8 (Nat.le_of_ble_eq_true rfl) dX11_keep_80 hf (fun v80 hf => ?_)
      refine r_iast C hw shM_23 ltM_23 (Nat.le_of_ble_eq_true rfl) dX11_keep_81 hf (fun S81 H locs hf hw => ?_)
      refine lv_iinc (v := iz (x1 + 1)) (lv' := [(1, .int (iz (x1 + 1))), (0, .ref (X.2.2 0))]) C.1.1 C.1.2.1 dX11_keep_82 hl (k := 1) rfl (iz_add _ _) (by decide) rfl (fun ls hl => ?_)
      refine lv_goto (tgt := 54) C.1.1 C.1.2.1 dX11_keep_85 (by decide) ?_
      exact ih (x1 + 1) S81 H locs ls hf hw (lv_sub hl [1, 0] rfl)
set_option maxRecDepth 100000 in
set_option maxHeartbeats 4000000 in
theorem w_X11_keep_52 {p : Program} (l : Launch) {e : Env} {s : State} {m : MethodId} {args : Array Value} {below : List Frame} {meth : Method} {c : Code} {X : XT} (hinj : XInj X nM) (hZ : ZOK (Zm X)) (C : CX p s m args meth c cX11_keep 2 RX11 none X nM (Zm X)) (out : S2) : ∀ (N : Nat), ∀ (S : S2) (H : Heap) (locs : List Loc) (ls : Array Slot), f_X11_keep_52 N S = some out → WH X shM nM s S H locs → lv_has ls 2 [(0, .ref (X.2.2 0))] → W p l e rmX11_keep s m args below meth c H locs 0 0 (QV X shM nM s args below out) (F0 m 52 ls []) := by
  intro N S H locs ls hf hw hl
  unfold f_X11_keep_52 at hf
  refine r_iconst (v := 0) C dX11_keep_52 ?_
  refine lv_istore_n (lv' := [(1, .int (iz 0)), (0, .ref (X.2.2 0))]) C.1.1 C.1.2.1 dX11_keep_53 rfl hl (by decide) rfl (fun ls hl => ?_)
  exact (w_X11_keep_54 l hinj hZ C out (f_X11_keep_88 N) (w_X11_keep_88 l hinj hZ C out N) N) 0 S H locs ls hf hw (lv_sub hl [1, 0] rfl)
set_option maxRecDepth 100000 in
set_option maxHeartbeats 4000000 in
theorem w_X11_keep_42 {p : Program} (l : Launch) {e : Env} {s : State} {m : MethodId} {args : Array Value} {below : List Frame} {meth : Method} {c : Code} {X : XT} (hinj : XInj X nM) (hZ : ZOK (Zm X)) (C : CX p s m args meth c cX11_keep 2 RX11 none X nM (Zm X)) (out : S2) : ∀ (N : Nat), ∀ (S : S2) (H : Heap) (locs : List Loc) (ls : Array Slot), f_X11_keep_42 N S = some out → WH X shM nM s S H locs → lv_has ls 2 [(0, .ref (X.2.2 0))] → W p l e rmX11_keep s m args below meth c H locs 0 0 (QV X shM nM s args below out) (F0 m 42 ls []) := by
  intro N S H locs ls hf hw hl
  unfold f_X11_keep_42 at hf
  refine lv_aload_n C.1.1 C.1.2.1 dX11_keep_42 rfl (lv_at hl 0 rfl) ?_
  refine lv_dup C.1.1 C.1.2.1 dX11_keep_43 rfl ?_
  refine r_getI (k := 44) C hw shM_0 ltM_0 cO11 rfl (by decide) tw5_188 rfl dX11_keep_44 hf (fun v44 hf => ?_)
  refine r_iconst (v := 1) C dX11_keep_47 ?_
  refine r_isub C dX11_keep_48 ?_
  refine r_putI (k := 44) C hw shM_0 ltM_0 cO11 rfl (by decide) tw5_188 rfl rfl rfl dX11_keep_49 hf (fun S49 H locs hf hw => ?_)
  exact (w_X11_keep_52 l hinj hZ C out N) S49 H locs ls hf hw (lv_sub hl [0] rfl)
set_option maxRecDepth 100000 in
set_option maxHeartbeats 4000000 in
theorem w_X11_keep_13 {p : Program} (l : Launch) {e : Env} {s : State} {m : MethodId} {args : Array Value} {below : List Frame} {meth : Method} {c : Code} {X : XT} (hinj : XInj X nM) (hZ : ZOK (Zm X)) (C : CX p s m args meth c cX11_keep 2 RX11 none X nM (Zm X)) (out : S2) (k42 : S2 → Option (S2)) (hk42 : ∀ (S : S2) (H : Heap) (locs : List Loc) (ls : Array Slot), k42 S = some out → WH X shM nM s S H locs → lv_has ls 2 [(0, .ref (X.2.2 0))] → W p l e rmX11_keep s m args below meth c H locs 0 0 (QV X shM nM s args below out) (F0 m 42 ls [])) : ∀ (N : Nat), ∀ (x1 : Int) (S : S2) (H : Heap) (locs : List Loc) (ls : Array Slot), f_X11_keep_13 k42 N x1 S = some out → WH X shM nM s S H locs → lv_has ls 2 [(0, .ref (X.2.2 0)), (1, .int (iz x1))] → W p l e rmX11_keep s m args below meth c H locs 0 0 (QV X shM nM s args below out) (F0 m 13 ls []) := by
  intro N
  induction N with
  | zero => intro x1 S H locs ls hf hw hl; cases hf
  | succ N ih =>
    intro x1 S H locs ls hf hw hl
    rw [f_X11_keep_13.eq_2] at hf
    refine lv_iload_n C.1.1 C.1.2.1 dX11_keep_13 rfl (lv_at hl 1 rfl) ?_
    refine r_sipush (v := 9240) C dX11_keep_14 (by decide) ?_
    refine r_icmp_ge C (tgt := 42) dX11_keep_17 (by decide) hf (fun hf => ?_) (fun hf => ?_)
    · exact hk42 S H locs ls hf hw (lv_sub hl [0] rfl)
    · refine lv_aload_n C.1.1 C.1.2.1 dX11_keep_20 rfl (lv_at hl 0 rfl) ?_
      refine r_getR (k := 43) C hw shM_0 ltM_0 cO11 rfl (by decide) tw5_187 rfl dX11_keep_21 ?_
      refine lv_iload_n C.1.1 C.1.2.1 dX11_keep_24 rfl (lv_at hl 1 rfl) ?_
      refine r_sipush (v := 231) C dX11_keep_25 (by decide) ?_
      refine r_isub C dX11_keep_28 ?_
      refine lv_aload_n C.1.1 C.1.2.1 dX11_keep_29 rfl (lv_at hl 0 rfl) ?_
      refine r_getR (k := 43) C hw shM_0 ltM_0 cO11 rfl (by decide) tw5_187 rfl dX11_keep_30 ?_
      refine lv_iload_n C.1.1 C.1.2.1 dX11_keep_33 rfl (lv_at hl 1 rfl) ?_
      refine r_iald C hw shM_23 ltM_23 (Nat.le_of_ble_eq_true rfl) dX11_keep_34 hf (fun v34 hf => ?_)
      refine r_iast C hw shM_23 ltM_23 (Nat.le_of_ble_eq_true rfl) dX11_keep_35 hf (fun S35 H locs hf hw => ?_)
      refine lv_iinc (v := iz (x1 + 1)) (lv' := [(1, .int (iz (x1 + 1))), (0, .ref (X.2.2 0))]) C.1.1 C.1.2.1 dX11_keep_36 hl (k := 1) rfl (iz_add _ _) (by decide) rfl (fun ls hl => ?_)
      refine lv_goto (tgt := 13) C.1.1 C.1.2.1 dX11_keep_39 (by decide) ?_
      exact ih (x1 + 1) S35 H locs ls hf hw (lv_sub hl [1, 0] rfl)
set_option maxRecDepth 100000 in
set_option maxHeartbeats 4000000 in
theorem c_X11_keep (l : Launch) (X : XT) (hinj : XInj X nM) (hZ : ZOK (Zm X)) (N : Nat) (S : S2) (out : S2) (hf : f_X11_keep N S = some out) : MV l X shM nM (Zm X) yX11_keep cX11_keep 2 none rmX11_keep [.ref (X.2.2 0)] S out := by
  refine met_V (own := RX11) (by decide) rfl hinj hZ (Nat.le_of_ble_eq_true rfl) (fun p e s m args below meth c C ls H locs hw hl => ?_)
  unfold f_X11_keep at hf
  have hl : lv_has ls 2 [(0, .ref (X.2.2 0))] := hl
  refine lv_aload_n C.1.1 C.1.2.1 dX11_keep_0 rfl (lv_at hl 0 rfl) ?_
  refine r_getI (k := 44) C hw shM_0 ltM_0 cO11 rfl (by decide) tw5_188 rfl dX11_keep_1 hf (fun v1 hf => ?_)
  refine r_bipush (v := 40) C dX11_keep_4 (by decide) ?_
  refine r_icmp_ne C (tgt := 52) dX11_keep_6 (by decide) hf (fun hf => ?_) (fun hf => ?_)
  · exact (w_X11_keep_52 l hinj hZ C out N) S H locs ls hf hw (lv_sub hl [0] rfl)
  · refine r_sipush (v := 231) C dX11_keep_9 (by decide) ?_
    refine lv_istore_n (lv' := [(1, .int (iz 231)), (0, .ref (X.2.2 0))]) C.1.1 C.1.2.1 dX11_keep_12 rfl hl (by decide) rfl (fun ls hl => ?_)
    exact (w_X11_keep_13 l hinj hZ C out (f_X11_keep_42 N) (w_X11_keep_42 l hinj hZ C out N) N) 231 S H locs ls hf hw (lv_sub hl [1, 0] rfl)
def f_X11_draw (N : Nat) (S : S2) (a1 : Int) : Option (Int × S2) := gL S 0 45 fun v2 => uL S 0 45 ((v2 * (6364136223846793005 : Int64)) + (1442695040888963407 : Int64)) fun S13 => gL S13 0 45 fun v17 => nzL ((iz a1).toInt64) <| rI (bz (((((v17).toUInt64 >>> ((iz 33).toInt64.toUInt64 &&& Int64.toUInt64 63)).toInt64) - (((v17).toUInt64 >>> ((iz 33).toInt64.toUInt64 &&& Int64.toUInt64 63)).toInt64) / ((iz a1).toInt64) * ((iz a1).toInt64)) : Int64).toInt32) S13
abbrev rmX11_draw : Room := { frames := 0, cells := 0, slots := 0, locals := 0 }
theorem hd_X11_draw : yX11_draw.cls ≠ "java/lang/invoke/MethodHandle" ∧ yX11_draw.cls ≠ "java/lang/invoke/VarHandle" ∧ (parseMethodDescriptor yX11_draw.desc).map (fun d => d.parameters.length) = some 1 := by decide +kernel
set_option maxRecDepth 100000 in
set_option maxHeartbeats 4000000 in
theorem c_X11_draw (l : Launch) (X : XT) (hinj : XInj X nM) (hZ : ZOK (Zm X)) (N : Nat) (S : S2) (a1 : Int) (out : Int × S2) (hf : f_X11_draw N S a1 = some out) : MI l X shM nM (Zm X) yX11_draw cX11_draw 2 (some .int) rmX11_draw [.ref (X.2.2 0), .int (iz a1)] S out := by
  refine met_I (own := RX11) (by decide) rfl hinj hZ (Nat.le_of_ble_eq_true rfl) (fun p e s m args below meth c C ls H locs hw hl => ?_)
  unfold f_X11_draw at hf
  have hl : lv_has ls 2 [(0, .ref (X.2.2 0)), (1, .int (iz a1))] := hl
  refine lv_aload_n C.1.1 C.1.2.1 dX11_draw_0 rfl (lv_at hl 0 rfl) ?_
  refine lv_aload_n C.1.1 C.1.2.1 dX11_draw_1 rfl (lv_at hl 0 rfl) ?_
  refine r_getL (k := 45) C hw shM_0 ltM_0 cO11 rfl (by decide) tw5_189 rfl dX11_draw_2 hf (fun v2 hf => ?_)
  refine lv_ldc2 (v := 6364136223846793005) C.1.1 C.1.2.1 C.1.2.2.2.1 (C.1.2.2.2.2 _ tw7_136) dX11_draw_5 ?_
  refine lv_lmul C.1.1 C.1.2.1 dX11_draw_8 ?_
  refine lv_ldc2 (v := 1442695040888963407) C.1.1 C.1.2.1 C.1.2.2.2.1 (C.1.2.2.2.2 _ tw7_137) dX11_draw_9 ?_
  refine lv_ladd C.1.1 C.1.2.1 dX11_draw_12 ?_
  refine r_putL (k := 45) C hw shM_0 ltM_0 cO11 rfl (by decide) tw5_189 rfl rfl rfl dX11_draw_13 hf (fun S13 H locs hf hw => ?_)
  refine lv_aload_n C.1.1 C.1.2.1 dX11_draw_16 rfl (lv_at hl 0 rfl) ?_
  refine r_getL (k := 45) C hw shM_0 ltM_0 cO11 rfl (by decide) tw5_189 rfl dX11_draw_17 hf (fun v17 hf => ?_)
  refine r_bipush (v := 33) C dX11_draw_20 (by decide) ?_
  refine lv_lushr (v := (((v17).toUInt64 >>> ((iz 33).toInt64.toUInt64 &&& Int64.toUInt64 63)).toInt64)) C.1.1 C.1.2.1 dX11_draw_22 rfl ?_
  refine lv_iload_n C.1.1 C.1.2.1 dX11_draw_23 rfl (lv_at hl 1 rfl) ?_
  refine lv_i2l (v := ((iz a1).toInt64)) C.1.1 C.1.2.1 dX11_draw_24 rfl ?_
  obtain ⟨hne, hf⟩ := nzL_some hf
  refine lv_lrem C.1.1 C.1.2.1 dX11_draw_25 hne ?_
  refine r_l2i C dX11_draw_26 ?_
  exact r_retI C hw dX11_draw_27 hf
def f_X11_status (N : Nat) (S : S2) (a1 : Int) : Option (Int × S2) := bI (f_X11_in N S a1 0 1) fun v3 S3 => cI v3 0 (if v3 = 0 then rI (-1) S3 else aI S3 9 2 a1 fun v14 => rI v14 S3)
abbrev rmX11_status : Room := { frames := 1, cells := 0, slots := 0, locals := 22 }
theorem hd_X11_status : yX11_status.cls ≠ "java/lang/invoke/MethodHandle" ∧ yX11_status.cls ≠ "java/lang/invoke/VarHandle" ∧ (parseMethodDescriptor yX11_status.desc).map (fun d => d.parameters.length) = some 1 := by decide +kernel
set_option maxRecDepth 100000 in
set_option maxHeartbeats 4000000 in
theorem c_X11_status (l : Launch) (X : XT) (hinj : XInj X nM) (hZ : ZOK (Zm X)) (N : Nat) (S : S2) (a1 : Int) (out : Int × S2) (hf : f_X11_status N S a1 = some out) : MI l X shM nM (Zm X) yX11_status cX11_status 2 (some .int) rmX11_status [.ref (X.2.2 0), .int (iz a1)] S out := by
  refine met_I (own := RX11) (by decide) rfl hinj hZ (Nat.le_of_ble_eq_true rfl) (fun p e s m args below meth c C ls H locs hw hl => ?_)
  unfold f_X11_status at hf
  have hl : lv_has ls 2 [(0, .ref (X.2.2 0)), (1, .int (iz a1))] := hl
  refine lv_iload_n C.1.1 C.1.2.1 dX11_status_0 rfl (lv_at hl 1 rfl) ?_
  refine r_iconst (v := 0) C dX11_status_1 ?_
  refine r_iconst (v := 1) C dX11_status_2 ?_
  refine r_scallI (As := [.int (iz a1), .int (iz 0), .int (iz 1)]) (rest := []) (rm := rmX11_in) C hw tw6_77 tw6_78 tw1_12 tw6_79 hd_X11_in rfl ⟨⟨rfl, rfl⟩, Nat.le_of_ble_eq_true rfl, Nat.le_of_ble_eq_true rfl⟩ hl.1 rfl (Nat.le_of_ble_eq_true rfl) dX11_status_3 hf (fun o ho => c_X11_in l X hinj hZ N S a1 0 1 o ho) (fun v3 S3 H locs hf hw => ?_)
  refine r_if_eq C (tgt := 18) dX11_status_6 (by decide) hf (fun hf => ?_) (fun hf => ?_)
  · refine r_iconst (v := (-1)) C dX11_status_18 ?_
    exact r_retI C hw dX11_status_19 hf
  · refine lv_aload_n C.1.1 C.1.2.1 dX11_status_9 rfl (lv_at hl 0 rfl) ?_
    refine r_getR (k := 23) C hw shM_0 ltM_0 cO11 rfl (by decide) tw5_167 rfl dX11_status_10 ?_
    refine lv_iload_n C.1.1 C.1.2.1 dX11_status_13 rfl (lv_at hl 1 rfl) ?_
    refine r_iald C hw shM_9 ltM_9 (Nat.le_of_ble_eq_true rfl) dX11_status_14 hf (fun v14 hf => ?_)
    refine lv_goto (tgt := 19) C.1.1 C.1.2.1 dX11_status_15 (by decide) ?_
    exact r_retI C hw dX11_status_19 hf
def f_X11_undo_55 (N : Nat) (S : S2) : Option (Int × S2) := gI S 0 44 fun v56 => rI v56 S
def f_X11_undo_21 (k55 : S2 → Option (Int × S2)) : Nat → Int → S2 → Option (Int × S2)
  | 0, _, _ => none
  | N + 1, x1, S => cI x1 231 (if 231 ≤ x1 then k55 S else gI S 0 44 fun v41 => aI S 23 9240 ((231 * v41) + x1) fun v47 => sI S 8 231 x1 v47 fun S48 => (f_X11_undo_21 k55 N) (x1 + 1) S48)
def f_X11_undo (N : Nat) (S : S2) : Option (Int × S2) := gI S 0 44 fun v1 => cI v1 0 (if v1 = 0 then rI (-1) S else gI S 0 44 fun v11 => uI S 0 44 (v11 - 1) fun S16 => (f_X11_undo_21 (f_X11_undo_55 N) N) 0 S16)
abbrev rmX11_undo : Room := { frames := 0, cells := 0, slots := 0, locals := 0 }
theorem hd_X11_undo : yX11_undo.cls ≠ "java/lang/invoke/MethodHandle" ∧ yX11_undo.cls ≠ "java/lang/invoke/VarHandle" ∧ (parseMethodDescriptor yX11_undo.desc).map (fun d => d.parameters.length) = some 0 := by decide +kernel
set_option maxRecDepth 100000 in
set_option maxHeartbeats 4000000 in
theorem w_X11_undo_55 {p : Program} (l : Launch) {e : Env} {s : State} {m : MethodId} {args : Array Value} {below : List Frame} {meth : Method} {c : Code} {X : XT} (hinj : XInj X nM) (hZ : ZOK (Zm X)) (C : CX p s m args meth c cX11_undo 2 RX11 (some .int) X nM (Zm X)) (out : Int × S2) : ∀ (N : Nat), ∀ (S : S2) (H : Heap) (locs : List Loc) (ls : Array Slot), f_X11_undo_55 N S = some out → WH X shM nM s S H locs → lv_has ls 2 [(0, .ref (X.2.2 0))] → W p l e rmX11_undo s m args below meth c H locs 0 0 (QI X shM nM s args below out) (F0 m 55 ls []) := by
  intro N S H locs ls hf hw hl
  unfold f_X11_undo_55 at hf
  refine lv_aload_n C.1.1 C.1.2.1 dX11_undo_55 rfl (lv_at hl 0 rfl) ?_
  refine r_getI (k := 44) C hw shM_0 ltM_0 cO11 rfl (by decide) tw5_188 rfl dX11_undo_56 hf (fun v56 hf => ?_)
  exact r_retI C hw dX11_undo_59 hf
set_option maxRecDepth 100000 in
set_option maxHeartbeats 4000000 in
theorem w_X11_undo_21 {p : Program} (l : Launch) {e : Env} {s : State} {m : MethodId} {args : Array Value} {below : List Frame} {meth : Method} {c : Code} {X : XT} (hinj : XInj X nM) (hZ : ZOK (Zm X)) (C : CX p s m args meth c cX11_undo 2 RX11 (some .int) X nM (Zm X)) (out : Int × S2) (k55 : S2 → Option (Int × S2)) (hk55 : ∀ (S : S2) (H : Heap) (locs : List Loc) (ls : Array Slot), k55 S = some out → WH X shM nM s S H locs → lv_has ls 2 [(0, .ref (X.2.2 0))] → W p l e rmX11_undo s m args below meth c H locs 0 0 (QI X shM nM s args below out) (F0 m 55 ls [])) : ∀ (N : Nat), ∀ (x1 : Int) (S : S2) (H : Heap) (locs : List Loc) (ls : Array Slot), f_X11_undo_21 k55 N x1 S = some out → WH X shM nM s S H locs → lv_has ls 2 [(0, .ref (X.2.2 0)), (1, .int (iz x1))] → W p l e rmX11_undo s m args below meth c H locs 0 0 (QI X shM nM s args below out) (F0 m 21 ls []) := by
  intro N
  induction N with
  | zero => intro x1 S H locs ls hf hw hl; cases hf
  | succ N ih =>
    intro x1 S H locs ls hf hw hl
    rw [f_X11_undo_21.eq_2] at hf
    refine lv_iload_n C.1.1 C.1.2.1 dX11_undo_21 rfl (lv_at hl 1 rfl) ?_
    refine r_sipush (v := 231) C dX11_undo_22 (by decide) ?_
    refine r_icmp_ge C (tgt := 55) dX11_undo_25 (by decide) hf (fun hf => ?_) (fun hf => ?_)
    · exact hk55 S H locs ls hf hw (lv_sub hl [0] rfl)
    · refine lv_aload_n C.1.1 C.1.2.1 dX11_undo_28 rfl (lv_at hl 0 rfl) ?_
      refine r_getR (k := 22) C hw shM_0 ltM_0 cO11 rfl (by decide) tw5_166 rfl dX11_undo_29 ?_
      refine lv_iload_n C.1.1 C.1.2.1 dX11_undo_32 rfl (lv_at hl 1 rfl) ?_
      refine lv_aload_n C.1.1 C.1.2.1 dX11_undo_33 rfl (lv_at hl 0 rfl) ?_
      refine r_getR (k := 43) C hw shM_0 ltM_0 cO11 rfl (by decide) tw5_187 rfl dX11_undo_34 ?_
      refine r_sipush (v := 231) C dX11_undo_37 (by decide) ?_
      refine lv_aload_n C.1.1 C.1.2.1 dX11_undo_40 rfl (lv_at hl 0 rfl) ?_
      refine r_getI (k := 44) C hw shM_0 ltM_0 cO11 rfl (by decide) tw5_188 rfl dX11_undo_41 hf (fun v41 hf => ?_)
      refine r_imul C dX11_undo_44 ?_
      refine lv_iload_n C.1.1 C.1.2.1 dX11_undo_45 rfl (lv_at hl 1 rfl) ?_
      refine r_iadd C dX11_undo_46 ?_
      refine r_iald C hw shM_23 ltM_23 (Nat.le_of_ble_eq_true rfl) dX11_undo_47 hf (fun v47 hf => ?_)
      refine r_iast C hw shM_8 ltM_8 (Nat.le_of_ble_eq_true rfl) dX11_undo_48 hf (fun S48 H locs hf hw => ?_)
      refine lv_iinc (v := iz (x1 + 1)) (lv' := [(1, .int (iz (x1 + 1))), (0, .ref (X.2.2 0))]) C.1.1 C.1.2.1 dX11_undo_49 hl (k := 1) rfl (iz_add _ _) (by decide) rfl (fun ls hl => ?_)
      refine lv_goto (tgt := 21) C.1.1 C.1.2.1 dX11_undo_52 (by decide) ?_
      exact ih (x1 + 1) S48 H locs ls hf hw (lv_sub hl [1, 0] rfl)
set_option maxRecDepth 100000 in
set_option maxHeartbeats 4000000 in
theorem c_X11_undo (l : Launch) (X : XT) (hinj : XInj X nM) (hZ : ZOK (Zm X)) (N : Nat) (S : S2) (out : Int × S2) (hf : f_X11_undo N S = some out) : MI l X shM nM (Zm X) yX11_undo cX11_undo 2 (some .int) rmX11_undo [.ref (X.2.2 0)] S out := by
  refine met_I (own := RX11) (by decide) rfl hinj hZ (Nat.le_of_ble_eq_true rfl) (fun p e s m args below meth c C ls H locs hw hl => ?_)
  unfold f_X11_undo at hf
  have hl : lv_has ls 2 [(0, .ref (X.2.2 0))] := hl
  refine lv_aload_n C.1.1 C.1.2.1 dX11_undo_0 rfl (lv_at hl 0 rfl) ?_
  refine r_getI (k := 44) C hw shM_0 ltM_0 cO11 rfl (by decide) tw5_188 rfl dX11_undo_1 hf (fun v1 hf => ?_)
  refine r_if_ne C (tgt := 9) dX11_undo_4 (by decide) hf (fun hf => ?_) (fun hf => ?_)
  · refine lv_aload_n C.1.1 C.1.2.1 dX11_undo_9 rfl (lv_at hl 0 rfl) ?_
    refine lv_dup C.1.1 C.1.2.1 dX11_undo_10 rfl ?_
    refine r_getI (k := 44) C hw shM_0 ltM_0 cO11 rfl (by decide) tw5_188 rfl dX11_undo_11 hf (fun v11 hf => ?_)
    refine r_iconst (v := 1) C dX11_undo_14 ?_
    refine r_isub C dX11_undo_15 ?_
    refine r_putI (k := 44) C hw shM_0 ltM_0 cO11 rfl (by decide) tw5_188 rfl rfl rfl dX11_undo_16 hf (fun S16 H locs hf hw => ?_)
    refine r_iconst (v := 0) C dX11_undo_19 ?_
    refine lv_istore_n (lv' := [(1, .int (iz 0)), (0, .ref (X.2.2 0))]) C.1.1 C.1.2.1 dX11_undo_20 rfl hl (by decide) rfl (fun ls hl => ?_)
    exact (w_X11_undo_21 l hinj hZ C out (f_X11_undo_55 N) (w_X11_undo_55 l hinj hZ C out N) N) 0 S16 H locs ls hf hw (lv_sub hl [1, 0] rfl)
  · refine r_iconst (v := (-1)) C dX11_undo_7 ?_
    exact r_retI C hw dX11_undo_8 hf
def f_X11_log (N : Nat) (S : S2) (a1 : Int) (a2 : Int) : Option (Int × S2) := aI S 8 231 50 fun v8 => bI (f_X11_in N S a1 0 (v8 - 1)) fun v11 S11 => cI v11 0 (if v11 = 0 then rI (-1000000) S11 else bI (f_X11_in N S11 a2 0 2) fun v20 S20 => cI v20 0 (if v20 = 0 then rI (-1000000) S20 else aI S20 8 231 50 fun v39 => aI S20 8 231 ((51 + (3 * ((v39 - 1) - a1))) + a2) fun v48 => rI v48 S20))
abbrev rmX11_log : Room := { frames := 1, cells := 0, slots := 0, locals := 22 }
theorem hd_X11_log : yX11_log.cls ≠ "java/lang/invoke/MethodHandle" ∧ yX11_log.cls ≠ "java/lang/invoke/VarHandle" ∧ (parseMethodDescriptor yX11_log.desc).map (fun d => d.parameters.length) = some 2 := by decide +kernel
set_option maxRecDepth 100000 in
set_option maxHeartbeats 4000000 in
theorem c_X11_log (l : Launch) (X : XT) (hinj : XInj X nM) (hZ : ZOK (Zm X)) (N : Nat) (S : S2) (a1 : Int) (a2 : Int) (out : Int × S2) (hf : f_X11_log N S a1 a2 = some out) : MI l X shM nM (Zm X) yX11_log cX11_log 3 (some .int) rmX11_log [.ref (X.2.2 0), .int (iz a1), .int (iz a2)] S out := by
  refine met_I (own := RX11) (by decide) rfl hinj hZ (Nat.le_of_ble_eq_true rfl) (fun p e s m args below meth c C ls H locs hw hl => ?_)
  unfold f_X11_log at hf
  have hl : lv_has ls 3 [(0, .ref (X.2.2 0)), (1, .int (iz a1)), (2, .int (iz a2))] := hl
  refine lv_iload_n C.1.1 C.1.2.1 dX11_log_0 rfl (lv_at hl 1 rfl) ?_
  refine r_iconst (v := 0) C dX11_log_1 ?_
  refine lv_aload_n C.1.1 C.1.2.1 dX11_log_2 rfl (lv_at hl 0 rfl) ?_
  refine r_getR (k := 22) C hw shM_0 ltM_0 cO11 rfl (by decide) tw5_166 rfl dX11_log_3 ?_
  refine r_bipush (v := 50) C dX11_log_6 (by decide) ?_
  refine r_iald C hw shM_8 ltM_8 (Nat.le_of_ble_eq_true rfl) dX11_log_8 hf (fun v8 hf => ?_)
  refine r_iconst (v := 1) C dX11_log_9 ?_
  refine r_isub C dX11_log_10 ?_
  refine r_scallI (As := [.int (iz a1), .int (iz 0), .int (iz (v8 - 1))]) (rest := []) (rm := rmX11_in) C hw tw6_77 tw6_78 tw1_12 tw6_79 hd_X11_in rfl ⟨⟨rfl, rfl⟩, Nat.le_of_ble_eq_true rfl, Nat.le_of_ble_eq_true rfl⟩ hl.1 rfl (Nat.le_of_ble_eq_true rfl) dX11_log_11 hf (fun o ho => c_X11_in l X hinj hZ N S a1 0 (v8 - 1) o ho) (fun v11 S11 H locs hf hw => ?_)
  refine r_if_eq C (tgt := 52) dX11_log_14 (by decide) hf (fun hf => ?_) (fun hf => ?_)
  · refine r_ldc (v := (-1000000)) C tw6_180 (by decide) dX11_log_52 ?_
    exact r_retI C hw dX11_log_54 hf
  · refine lv_iload_n C.1.1 C.1.2.1 dX11_log_17 rfl (lv_at hl 2 rfl) ?_
    refine r_iconst (v := 0) C dX11_log_18 ?_
    refine r_iconst (v := 2) C dX11_log_19 ?_
    refine r_scallI (As := [.int (iz a2), .int (iz 0), .int (iz 2)]) (rest := []) (rm := rmX11_in) C hw tw6_77 tw6_78 tw1_12 tw6_79 hd_X11_in rfl ⟨⟨rfl, rfl⟩, Nat.le_of_ble_eq_true rfl, Nat.le_of_ble_eq_true rfl⟩ hl.1 rfl (Nat.le_of_ble_eq_true rfl) dX11_log_20 hf (fun o ho => c_X11_in l X hinj hZ N S11 a2 0 2 o ho) (fun v20 S20 H locs hf hw => ?_)
    refine r_if_eq C (tgt := 52) dX11_log_23 (by decide) hf (fun hf => ?_) (fun hf => ?_)
    · refine r_ldc (v := (-1000000)) C tw6_180 (by decide) dX11_log_52 ?_
      exact r_retI C hw dX11_log_54 hf
    · refine lv_aload_n C.1.1 C.1.2.1 dX11_log_26 rfl (lv_at hl 0 rfl) ?_
      refine r_getR (k := 22) C hw shM_0 ltM_0 cO11 rfl (by decide) tw5_166 rfl dX11_log_27 ?_
      refine r_bipush (v := 51) C dX11_log_30 (by decide) ?_
      refine r_iconst (v := 3) C dX11_log_32 ?_
      refine lv_aload_n C.1.1 C.1.2.1 dX11_log_33 rfl (lv_at hl 0 rfl) ?_
      refine r_getR (k := 22) C hw shM_0 ltM_0 cO11 rfl (by decide) tw5_166 rfl dX11_log_34 ?_
      refine r_bipush (v := 50) C dX11_log_37 (by decide) ?_
      refine r_iald C hw shM_8 ltM_8 (Nat.le_of_ble_eq_true rfl) dX11_log_39 hf (fun v39 hf => ?_)
      refine r_iconst (v := 1) C dX11_log_40 ?_
      refine r_isub C dX11_log_41 ?_
      refine lv_iload_n C.1.1 C.1.2.1 dX11_log_42 rfl (lv_at hl 1 rfl) ?_
      refine r_isub C dX11_log_43 ?_
      refine r_imul C dX11_log_44 ?_
      refine r_iadd C dX11_log_45 ?_
      refine lv_iload_n C.1.1 C.1.2.1 dX11_log_46 rfl (lv_at hl 2 rfl) ?_
      refine r_iadd C dX11_log_47 ?_
      refine r_iald C hw shM_8 ltM_8 (Nat.le_of_ble_eq_true rfl) dX11_log_48 hf (fun v48 hf => ?_)
      refine lv_goto (tgt := 54) C.1.1 C.1.2.1 dX11_log_49 (by decide) ?_
      exact r_retI C hw dX11_log_54 hf
def f_X11_sumOf_4 : Nat → Int → Int → S2 → Option (Int × S2)
  | 0, _, _, _ => none
  | N + 1, x1, x2, S => bI (f_X11_many N S) fun v6 S6 => cI x2 v6 (if v6 ≤ x2 then rI x1 S6 else aI S6 8 231 x2 fun v18 => (f_X11_sumOf_4 N) (x1 + v18) (x2 + 1) S6)
def f_X11_sumOf (N : Nat) (S : S2) : Option (Int × S2) := (f_X11_sumOf_4 N) 0 0 S
abbrev rmX11_sumOf : Room := { frames := 1, cells := 0, slots := 0, locals := 20 }
theorem hd_X11_sumOf : yX11_sumOf.cls ≠ "java/lang/invoke/MethodHandle" ∧ yX11_sumOf.cls ≠ "java/lang/invoke/VarHandle" ∧ (parseMethodDescriptor yX11_sumOf.desc).map (fun d => d.parameters.length) = some 0 := by decide +kernel
set_option maxRecDepth 100000 in
set_option maxHeartbeats 4000000 in
theorem w_X11_sumOf_4 {p : Program} (l : Launch) {e : Env} {s : State} {m : MethodId} {args : Array Value} {below : List Frame} {meth : Method} {c : Code} {X : XT} (hinj : XInj X nM) (hZ : ZOK (Zm X)) (C : CX p s m args meth c cX11_sumOf 3 RX11 (some .int) X nM (Zm X)) (out : Int × S2) : ∀ (N : Nat), ∀ (x1 : Int) (x2 : Int) (S : S2) (H : Heap) (locs : List Loc) (ls : Array Slot), f_X11_sumOf_4 N x1 x2 S = some out → WH X shM nM s S H locs → lv_has ls 3 [(0, .ref (X.2.2 0)), (1, .int (iz x1)), (2, .int (iz x2))] → W p l e rmX11_sumOf s m args below meth c H locs 0 0 (QI X shM nM s args below out) (F0 m 4 ls []) := by
  intro N
  induction N with
  | zero => intro x1 x2 S H locs ls hf hw hl; cases hf
  | succ N ih =>
    intro x1 x2 S H locs ls hf hw hl
    rw [f_X11_sumOf_4.eq_2] at hf
    refine lv_iload_n C.1.1 C.1.2.1 dX11_sumOf_4 rfl (lv_at hl 2 rfl) ?_
    refine lv_aload_n C.1.1 C.1.2.1 dX11_sumOf_5 rfl (lv_at hl 0 rfl) ?_
    refine r_callI (As := []) (rest := [.int (iz x2)]) (rm := rmX11_many) C hw shM_0 ltM_0 cO11 tw6_192 tw6_194 tp_60 tw1_12 tw6_195 hd_X11_many rfl ⟨⟨rfl, rfl⟩, Nat.le_of_ble_eq_true rfl, Nat.le_of_ble_eq_true rfl⟩ hl.1 rfl (Nat.le_of_ble_eq_true rfl) dX11_sumOf_6 hf (fun o ho => c_X11_many l X hinj hZ N S o ho) (fun v6 S6 H locs hf hw => ?_)
    refine r_icmp_ge C (tgt := 27) dX11_sumOf_9 (by decide) hf (fun hf => ?_) (fun hf => ?_)
    · refine lv_iload_n C.1.1 C.1.2.1 dX11_sumOf_27 rfl (lv_at hl 1 rfl) ?_
      exact r_retI C hw dX11_sumOf_28 hf
    · refine lv_iload_n C.1.1 C.1.2.1 dX11_sumOf_12 rfl (lv_at hl 1 rfl) ?_
      refine lv_aload_n C.1.1 C.1.2.1 dX11_sumOf_13 rfl (lv_at hl 0 rfl) ?_
      refine r_getR (k := 22) C hw shM_0 ltM_0 cO11 rfl (by decide) tw5_166 rfl dX11_sumOf_14 ?_
      refine lv_iload_n C.1.1 C.1.2.1 dX11_sumOf_17 rfl (lv_at hl 2 rfl) ?_
      refine r_iald C hw shM_8 ltM_8 (Nat.le_of_ble_eq_true rfl) dX11_sumOf_18 hf (fun v18 hf => ?_)
      refine r_iadd C dX11_sumOf_19 ?_
      refine lv_istore_n (lv' := [(1, .int (iz (x1 + v18))), (0, .ref (X.2.2 0)), (2, .int (iz x2))]) C.1.1 C.1.2.1 dX11_sumOf_20 rfl hl (by decide) rfl (fun ls hl => ?_)
      refine lv_iinc (v := iz (x2 + 1)) (lv' := [(2, .int (iz (x2 + 1))), (1, .int (iz (x1 + v18))), (0, .ref (X.2.2 0))]) C.1.1 C.1.2.1 dX11_sumOf_21 hl (k := 2) rfl (iz_add _ _) (by decide) rfl (fun ls hl => ?_)
      refine lv_goto (tgt := 4) C.1.1 C.1.2.1 dX11_sumOf_24 (by decide) ?_
      exact ih (x1 + v18) (x2 + 1) S6 H locs ls hf hw (lv_sub hl [2, 1, 0] rfl)
set_option maxRecDepth 100000 in
set_option maxHeartbeats 4000000 in
theorem c_X11_sumOf (l : Launch) (X : XT) (hinj : XInj X nM) (hZ : ZOK (Zm X)) (N : Nat) (S : S2) (out : Int × S2) (hf : f_X11_sumOf N S = some out) : MI l X shM nM (Zm X) yX11_sumOf cX11_sumOf 3 (some .int) rmX11_sumOf [.ref (X.2.2 0)] S out := by
  refine met_I (own := RX11) (by decide) rfl hinj hZ (Nat.le_of_ble_eq_true rfl) (fun p e s m args below meth c C ls H locs hw hl => ?_)
  unfold f_X11_sumOf at hf
  have hl : lv_has ls 3 [(0, .ref (X.2.2 0))] := hl
  refine r_iconst (v := 0) C dX11_sumOf_0 ?_
  refine lv_istore_n (lv' := [(1, .int (iz 0)), (0, .ref (X.2.2 0))]) C.1.1 C.1.2.1 dX11_sumOf_1 rfl hl (by decide) rfl (fun ls hl => ?_)
  refine r_iconst (v := 0) C dX11_sumOf_2 ?_
  refine lv_istore_n (lv' := [(2, .int (iz 0)), (1, .int (iz 0)), (0, .ref (X.2.2 0))]) C.1.1 C.1.2.1 dX11_sumOf_3 rfl hl (by decide) rfl (fun ls hl => ?_)
  exact (w_X11_sumOf_4 l hinj hZ C out N) 0 0 S H locs ls hf hw (lv_sub hl [2, 1, 0] rfl)
def f_X11_sample (N : Nat) (S : S2) (a1 : Int) : Option (Int × S2) := bI (f_X11_isPlace N S a1) fun v2 S2 => cI v2 0 (if v2 = 0 then rI (-1) S2 else aI S2 8 231 a1 fun v13 => rI v13 S2)
abbrev rmX11_sample : Room := { frames := 2, cells := 0, slots := 0, locals := 43 }
theorem hd_X11_sample : yX11_sample.cls ≠ "java/lang/invoke/MethodHandle" ∧ yX11_sample.cls ≠ "java/lang/invoke/VarHandle" ∧ (parseMethodDescriptor yX11_sample.desc).map (fun d => d.parameters.length) = some 1 := by decide +kernel
set_option maxRecDepth 100000 in
set_option maxHeartbeats 4000000 in
theorem c_X11_sample (l : Launch) (X : XT) (hinj : XInj X nM) (hZ : ZOK (Zm X)) (N : Nat) (S : S2) (a1 : Int) (out : Int × S2) (hf : f_X11_sample N S a1 = some out) : MI l X shM nM (Zm X) yX11_sample cX11_sample 2 (some .int) rmX11_sample [.ref (X.2.2 0), .int (iz a1)] S out := by
  refine met_I (own := RX11) (by decide) rfl hinj hZ (Nat.le_of_ble_eq_true rfl) (fun p e s m args below meth c C ls H locs hw hl => ?_)
  unfold f_X11_sample at hf
  have hl : lv_has ls 2 [(0, .ref (X.2.2 0)), (1, .int (iz a1))] := hl
  refine lv_aload_n C.1.1 C.1.2.1 dX11_sample_0 rfl (lv_at hl 0 rfl) ?_
  refine lv_iload_n C.1.1 C.1.2.1 dX11_sample_1 rfl (lv_at hl 1 rfl) ?_
  refine r_callI (As := [.int (iz a1)]) (rest := []) (rm := rmX11_isPlace) C hw shM_0 ltM_0 cO11 tw6_208 tw6_210 tp_63 tw1_12 tw6_211 hd_X11_isPlace rfl ⟨⟨rfl, rfl⟩, Nat.le_of_ble_eq_true rfl, Nat.le_of_ble_eq_true rfl⟩ hl.1 rfl (Nat.le_of_ble_eq_true rfl) dX11_sample_2 hf (fun o ho => c_X11_isPlace l X hinj hZ N S a1 o ho) (fun v2 S2 H locs hf hw => ?_)
  refine r_if_eq C (tgt := 17) dX11_sample_5 (by decide) hf (fun hf => ?_) (fun hf => ?_)
  · refine r_iconst (v := (-1)) C dX11_sample_17 ?_
    exact r_retI C hw dX11_sample_18 hf
  · refine lv_aload_n C.1.1 C.1.2.1 dX11_sample_8 rfl (lv_at hl 0 rfl) ?_
    refine r_getR (k := 22) C hw shM_0 ltM_0 cO11 rfl (by decide) tw5_166 rfl dX11_sample_9 ?_
    refine lv_iload_n C.1.1 C.1.2.1 dX11_sample_12 rfl (lv_at hl 1 rfl) ?_
    refine r_iald C hw shM_8 ltM_8 (Nat.le_of_ble_eq_true rfl) dX11_sample_13 hf (fun v13 hf => ?_)
    refine lv_goto (tgt := 18) C.1.1 C.1.2.1 dX11_sample_14 (by decide) ?_
    exact r_retI C hw dX11_sample_18 hf
def f_X11_pieces_64 (k24 : Int → Int → Int → S2 → Option (Int × S2)) (N : Nat) (x1 : Int) (x3 : Int) (y0 : Int) (y1 : Int) (S : S2) : Option (Int × S2) := k24 x1 (y1 + y0) (x3 + 1) S
def f_X11_pieces_63 (k24 : Int → Int → Int → S2 → Option (Int × S2)) (N : Nat) (x1 : Int) (x3 : Int) (y0 : Int) (S : S2) : Option (Int × S2) := (f_X11_pieces_64 k24 N) x1 x3 0 y0 S
def f_X11_pieces_59 (k24 : Int → Int → Int → S2 → Option (Int × S2)) (N : Nat) (x1 : Int) (x3 : Int) (y0 : Int) (S : S2) : Option (Int × S2) := (f_X11_pieces_64 k24 N) x1 x3 1 y0 S
def f_X11_pieces_24 : Nat → Int → Int → Int → S2 → Option (Int × S2)
  | 0, _, _, _, _ => none
  | N + 1, x1, x2, x3, S => bI (f_X11_many N S) fun v26 S26 => cI x3 v26 (if v26 ≤ x3 then rI x2 S26 else aI S26 8 231 x3 fun v38 => cI v38 x1 (if v38 < x1 then (f_X11_pieces_63 (f_X11_pieces_24 N) N) x1 x3 x2 S26 else cI x3 0 (if x3 = 0 then (f_X11_pieces_59 (f_X11_pieces_24 N) N) x1 x3 x2 S26 else aI S26 8 231 (x3 - 1) fun v54 => cI v54 x1 (if x1 ≤ v54 then (f_X11_pieces_63 (f_X11_pieces_24 N) N) x1 x3 x2 S26 else (f_X11_pieces_59 (f_X11_pieces_24 N) N) x1 x3 x2 S26))))
def f_X11_pieces (N : Nat) (S : S2) (a1 : Int) : Option (Int × S2) := gI S 0 29 fun v1 => cI v1 0 (if v1 = 0 then rI (-1) S else bI (f_X11_in N S a1 0 999) fun v12 S12 => cI v12 0 (if v12 = 0 then rI (-1) S12 else (f_X11_pieces_24 N) a1 0 0 S12))
abbrev rmX11_pieces : Room := { frames := 1, cells := 0, slots := 0, locals := 22 }
theorem hd_X11_pieces : yX11_pieces.cls ≠ "java/lang/invoke/MethodHandle" ∧ yX11_pieces.cls ≠ "java/lang/invoke/VarHandle" ∧ (parseMethodDescriptor yX11_pieces.desc).map (fun d => d.parameters.length) = some 1 := by decide +kernel
set_option maxRecDepth 100000 in
set_option maxHeartbeats 4000000 in
theorem w_X11_pieces_64 {p : Program} (l : Launch) {e : Env} {s : State} {m : MethodId} {args : Array Value} {below : List Frame} {meth : Method} {c : Code} {X : XT} (hinj : XInj X nM) (hZ : ZOK (Zm X)) (C : CX p s m args meth c cX11_pieces 4 RX11 (some .int) X nM (Zm X)) (out : Int × S2) (k24 : Int → Int → Int → S2 → Option (Int × S2)) (hk24 : ∀ (x1 : Int) (x2 : Int) (x3 : Int) (S : S2) (H : Heap) (locs : List Loc) (ls : Array Slot), k24 x1 x2 x3 S = some out → WH X shM nM s S H locs → lv_has ls 4 [(0, .ref (X.2.2 0)), (1, .int (iz x1)), (2, .int (iz x2)), (3, .int (iz x3))] → W p l e rmX11_pieces s m args below meth c H locs 0 0 (QI X shM nM s args below out) (F0 m 24 ls [])) : ∀ (N : Nat), ∀ (x1 : Int) (x3 : Int) (y0 : Int) (y1 : Int) (S : S2) (H : Heap) (locs : List Loc) (ls : Array Slot), f_X11_pieces_64 k24 N x1 x3 y0 y1 S = some out → WH X shM nM s S H locs → lv_has ls 4 [(0, .ref (X.2.2 0)), (1, .int (iz x1)), (3, .int (iz x3))] → W p l e rmX11_pieces s m args below meth c H locs 0 0 (QI X shM nM s args below out) (F0 m 64 ls [.int (iz y0), .int (iz y1)]) := by
  intro N x1 x3 y0 y1 S H locs ls hf hw hl
  unfold f_X11_pieces_64 at hf
  refine r_iadd C dX11_pieces_64 ?_
  refine lv_istore_n (lv' := [(2, .int (iz (y1 + y0))), (0, .ref (X.2.2 0)), (1, .int (iz x1)), (3, .int (iz x3))]) C.1.1 C.1.2.1 dX11_pieces_65 rfl hl (by decide) rfl (fun ls hl => ?_)
  refine lv_iinc (v := iz (x3 + 1)) (lv' := [(3, .int (iz (x3 + 1))), (2, .int (iz (y1 + y0))), (0, .ref (X.2.2 0)), (1, .int (iz x1))]) C.1.1 C.1.2.1 dX11_pieces_66 hl (k := 3) rfl (iz_add _ _) (by decide) rfl (fun ls hl => ?_)
  refine lv_goto (tgt := 24) C.1.1 C.1.2.1 dX11_pieces_69 (by decide) ?_
  exact hk24 x1 (y1 + y0) (x3 + 1) S H locs ls hf hw (lv_sub hl [2, 3, 1, 0] rfl)
set_option maxRecDepth 100000 in
set_option maxHeartbeats 4000000 in
theorem w_X11_pieces_63 {p : Program} (l : Launch) {e : Env} {s : State} {m : MethodId} {args : Array Value} {below : List Frame} {meth : Method} {c : Code} {X : XT} (hinj : XInj X nM) (hZ : ZOK (Zm X)) (C : CX p s m args meth c cX11_pieces 4 RX11 (some .int) X nM (Zm X)) (out : Int × S2) (k24 : Int → Int → Int → S2 → Option (Int × S2)) (hk24 : ∀ (x1 : Int) (x2 : Int) (x3 : Int) (S : S2) (H : Heap) (locs : List Loc) (ls : Array Slot), k24 x1 x2 x3 S = some out → WH X shM nM s S H locs → lv_has ls 4 [(0, .ref (X.2.2 0)), (1, .int (iz x1)), (2, .int (iz x2)), (3, .int (iz x3))] → W p l e rmX11_pieces s m args below meth c H locs 0 0 (QI X shM nM s args below out) (F0 m 24 ls [])) : ∀ (N : Nat), ∀ (x1 : Int) (x3 : Int) (y0 : Int) (S : S2) (H : Heap) (locs : List Loc) (ls : Array Slot), f_X11_pieces_63 k24 N x1 x3 y0 S = some out → WH X shM nM s S H locs → lv_has ls 4 [(0, .ref (X.2.2 0)), (1, .int (iz x1)), (3, .int (iz x3))] → W p l e rmX11_pieces s m args below meth c H locs 0 0 (QI X shM nM s args below out) (F0 m 63 ls [.int (iz y0)]) := by
  intro N x1 x3 y0 S H locs ls hf hw hl
  unfold f_X11_pieces_63 at hf
  refine r_iconst (v := 0) C dX11_pieces_63 ?_
  exact (w_X11_pieces_64 l hinj hZ C out k24 hk24 N) x1 x3 0 y0 S H locs ls hf hw (lv_sub hl [0, 1, 2] rfl)
set_option maxRecDepth 100000 in
set_option maxHeartbeats 4000000 in
theorem w_X11_pieces_59 {p : Program} (l : Launch) {e : Env} {s : State} {m : MethodId} {args : Array Value} {below : List Frame} {meth : Method} {c : Code} {X : XT} (hinj : XInj X nM) (hZ : ZOK (Zm X)) (C : CX p s m args meth c cX11_pieces 4 RX11 (some .int) X nM (Zm X)) (out : Int × S2) (k24 : Int → Int → Int → S2 → Option (Int × S2)) (hk24 : ∀ (x1 : Int) (x2 : Int) (x3 : Int) (S : S2) (H : Heap) (locs : List Loc) (ls : Array Slot), k24 x1 x2 x3 S = some out → WH X shM nM s S H locs → lv_has ls 4 [(0, .ref (X.2.2 0)), (1, .int (iz x1)), (2, .int (iz x2)), (3, .int (iz x3))] → W p l e rmX11_pieces s m args below meth c H locs 0 0 (QI X shM nM s args below out) (F0 m 24 ls [])) : ∀ (N : Nat), ∀ (x1 : Int) (x3 : Int) (y0 : Int) (S : S2) (H : Heap) (locs : List Loc) (ls : Array Slot), f_X11_pieces_59 k24 N x1 x3 y0 S = some out → WH X shM nM s S H locs → lv_has ls 4 [(0, .ref (X.2.2 0)), (1, .int (iz x1)), (3, .int (iz x3))] → W p l e rmX11_pieces s m args below meth c H locs 0 0 (QI X shM nM s args below out) (F0 m 59 ls [.int (iz y0)]) := by
  intro N x1 x3 y0 S H locs ls hf hw hl
  unfold f_X11_pieces_59 at hf
  refine r_iconst (v := 1) C dX11_pieces_59 ?_
  refine lv_goto (tgt := 64) C.1.1 C.1.2.1 dX11_pieces_60 (by decide) ?_
  exact (w_X11_pieces_64 l hinj hZ C out k24 hk24 N) x1 x3 1 y0 S H locs ls hf hw (lv_sub hl [0, 1, 2] rfl)
set_option maxRecDepth 100000 in
set_option maxHeartbeats 4000000 in
theorem w_X11_pieces_24 {p : Program} (l : Launch) {e : Env} {s : State} {m : MethodId} {args : Array Value} {below : List Frame} {meth : Method} {c : Code} {X : XT} (hinj : XInj X nM) (hZ : ZOK (Zm X)) (C : CX p s m args meth c cX11_pieces 4 RX11 (some .int) X nM (Zm X)) (out : Int × S2) : ∀ (N : Nat), ∀ (x1 : Int) (x2 : Int) (x3 : Int) (S : S2) (H : Heap) (locs : List Loc) (ls : Array Slot), f_X11_pieces_24 N x1 x2 x3 S = some out → WH X shM nM s S H locs → lv_has ls 4 [(0, .ref (X.2.2 0)), (1, .int (iz x1)), (2, .int (iz x2)), (3, .int (iz x3))] → W p l e rmX11_pieces s m args below meth c H locs 0 0 (QI X shM nM s args below out) (F0 m 24 ls []) := by
  intro N
  induction N with
  | zero => intro x1 x2 x3 S H locs ls hf hw hl; cases hf
  | succ N ih =>
    intro x1 x2 x3 S H locs ls hf hw hl
    rw [f_X11_pieces_24.eq_2] at hf
    refine lv_iload_n C.1.1 C.1.2.1 dX11_pieces_24 rfl (lv_at hl 3 rfl) ?_
    refine lv_aload_n C.1.1 C.1.2.1 dX11_pieces_25 rfl (lv_at hl 0 rfl) ?_
    refine r_callI (As := []) (rest := [.int (iz x3)]) (rm := rmX11_many) C hw shM_0 ltM_0 cO11 tw6_192 tw6_194 tp_60 tw1_12 tw6_195 hd_X11_many rfl ⟨⟨rfl, rfl⟩, Nat.le_of_ble_eq_true rfl, Nat.le_of_ble_eq_true rfl⟩ hl.1 rfl (Nat.le_of_ble_eq_true rfl) dX11_pieces_26 hf (fun o ho => c_X11_many l X hinj hZ N S o ho) (fun v26 S26 H locs hf hw => ?_)
    refine r_icmp_ge C (tgt := 72) dX11_pieces_29 (by decide) hf (fun hf => ?_) (fun hf => ?_)
    · refine lv_iload_n C.1.1 C.1.2.1 dX11_pieces_72 rfl (lv_at hl 2 rfl) ?_
      exact r_retI C hw dX11_pieces_73 hf
    · refine lv_iload_n C.1.1 C.1.2.1 dX11_pieces_32 rfl (lv_at hl 2 rfl) ?_
      refine lv_aload_n C.1.1 C.1.2.1 dX11_pieces_33 rfl (lv_at hl 0 rfl) ?_
      refine r_getR (k := 22) C hw shM_0 ltM_0 cO11 rfl (by decide) tw5_166 rfl dX11_pieces_34 ?_
      refine lv_iload_n C.1.1 C.1.2.1 dX11_pieces_37 rfl (lv_at hl 3 rfl) ?_
      refine r_iald C hw shM_8 ltM_8 (Nat.le_of_ble_eq_true rfl) dX11_pieces_38 hf (fun v38 hf => ?_)
      refine lv_iload_n C.1.1 C.1.2.1 dX11_pieces_39 rfl (lv_at hl 1 rfl) ?_
      refine r_icmp_lt C (tgt := 63) dX11_pieces_40 (by decide) hf (fun hf => ?_) (fun hf => ?_)
      · exact (w_X11_pieces_63 l hinj hZ C out (f_X11_pieces_24 N) ih N) x1 x3 x2 S26 H locs ls hf hw (lv_sub hl [0, 1, 3] rfl)
      · refine lv_iload_n C.1.1 C.1.2.1 dX11_pieces_43 rfl (lv_at hl 3 rfl) ?_
        refine r_if_eq C (tgt := 59) dX11_pieces_44 (by decide) hf (fun hf => ?_) (fun hf => ?_)
        · exact (w_X11_pieces_59 l hinj hZ C out (f_X11_pieces_24 N) ih N) x1 x3 x2 S26 H locs ls hf hw (lv_sub hl [0, 1, 3] rfl)
        · refine lv_aload_n C.1.1 C.1.2.1 dX11_pieces_47 rfl (lv_at hl 0 rfl) ?_
          refine r_getR (k := 22) C hw shM_0 ltM_0 cO11 rfl (by decide) tw5_166 rfl dX11_pieces_48 ?_
          refine lv_iload_n C.1.1 C.1.2.1 dX11_pieces_51 rfl (lv_at hl 3 rfl) ?_
          refine r_iconst (v := 1) C dX11_pieces_52 ?_
          refine r_isub C dX11_pieces_53 ?_
          refine r_iald C hw shM_8 ltM_8 (Nat.le_of_ble_eq_true rfl) dX11_pieces_54 hf (fun v54 hf => ?_)
          refine lv_iload_n C.1.1 C.1.2.1 dX11_pieces_55 rfl (lv_at hl 1 rfl) ?_
          refine r_icmp_ge C (tgt := 63) dX11_pieces_56 (by decide) hf (fun hf => ?_) (fun hf => ?_)
          · exact (w_X11_pieces_63 l hinj hZ C out (f_X11_pieces_24 N) ih N) x1 x3 x2 S26 H locs ls hf hw (lv_sub hl [0, 1, 3] rfl)
          · exact (w_X11_pieces_59 l hinj hZ C out (f_X11_pieces_24 N) ih N) x1 x3 x2 S26 H locs ls hf hw (lv_sub hl [0, 1, 3] rfl)
set_option maxRecDepth 100000 in
set_option maxHeartbeats 4000000 in
theorem c_X11_pieces (l : Launch) (X : XT) (hinj : XInj X nM) (hZ : ZOK (Zm X)) (N : Nat) (S : S2) (a1 : Int) (out : Int × S2) (hf : f_X11_pieces N S a1 = some out) : MI l X shM nM (Zm X) yX11_pieces cX11_pieces 4 (some .int) rmX11_pieces [.ref (X.2.2 0), .int (iz a1)] S out := by
  refine met_I (own := RX11) (by decide) rfl hinj hZ (Nat.le_of_ble_eq_true rfl) (fun p e s m args below meth c C ls H locs hw hl => ?_)
  unfold f_X11_pieces at hf
  have hl : lv_has ls 4 [(0, .ref (X.2.2 0)), (1, .int (iz a1))] := hl
  refine lv_aload_n C.1.1 C.1.2.1 dX11_pieces_0 rfl (lv_at hl 0 rfl) ?_
  refine r_getI (k := 29) C hw shM_0 ltM_0 cO11 rfl (by decide) tw5_173 rfl dX11_pieces_1 hf (fun v1 hf => ?_)
  refine r_if_eq C (tgt := 18) dX11_pieces_4 (by decide) hf (fun hf => ?_) (fun hf => ?_)
  · refine r_iconst (v := (-1)) C dX11_pieces_18 ?_
    exact r_retI C hw dX11_pieces_19 hf
  · refine lv_iload_n C.1.1 C.1.2.1 dX11_pieces_7 rfl (lv_at hl 1 rfl) ?_
    refine r_iconst (v := 0) C dX11_pieces_8 ?_
    refine r_sipush (v := 999) C dX11_pieces_9 (by decide) ?_
    refine r_scallI (As := [.int (iz a1), .int (iz 0), .int (iz 999)]) (rest := []) (rm := rmX11_in) C hw tw6_77 tw6_78 tw1_12 tw6_79 hd_X11_in rfl ⟨⟨rfl, rfl⟩, Nat.le_of_ble_eq_true rfl, Nat.le_of_ble_eq_true rfl⟩ hl.1 rfl (Nat.le_of_ble_eq_true rfl) dX11_pieces_12 hf (fun o ho => c_X11_in l X hinj hZ N S a1 0 999 o ho) (fun v12 S12 H locs hf hw => ?_)
    refine r_if_ne C (tgt := 20) dX11_pieces_15 (by decide) hf (fun hf => ?_) (fun hf => ?_)
    · refine r_iconst (v := 0) C dX11_pieces_20 ?_
      refine lv_istore_n (lv' := [(2, .int (iz 0)), (0, .ref (X.2.2 0)), (1, .int (iz a1))]) C.1.1 C.1.2.1 dX11_pieces_21 rfl hl (by decide) rfl (fun ls hl => ?_)
      refine r_iconst (v := 0) C dX11_pieces_22 ?_
      refine lv_istore_n (lv' := [(3, .int (iz 0)), (2, .int (iz 0)), (0, .ref (X.2.2 0)), (1, .int (iz a1))]) C.1.1 C.1.2.1 dX11_pieces_23 rfl hl (by decide) rfl (fun ls hl => ?_)
      exact (w_X11_pieces_24 l hinj hZ C out N) a1 0 0 S12 H locs ls hf hw (lv_sub hl [2, 3, 1, 0] rfl)
    · refine r_iconst (v := (-1)) C dX11_pieces_18 ?_
      exact r_retI C hw dX11_pieces_19 hf
def f_X11_keptBy_27 (k4 : Int → Int → Int → S2 → Option (Int × S2)) (N : Nat) (x1 : Int) (x3 : Int) (y0 : Int) (y1 : Int) (S : S2) : Option (Int × S2) := k4 x1 (y1 + y0) (x3 + 1) S
def f_X11_keptBy_4 : Nat → Int → Int → Int → S2 → Option (Int × S2)
  | 0, _, _, _, _ => none
  | N + 1, x1, x2, x3, S => gI S 0 35 fun v6 => cI x3 v6 (if v6 ≤ x3 then rI x2 S else bI (f_X11_life N S x3) fun v15 S15 => cI v15 x1 (if v15 ≤ x1 then (f_X11_keptBy_27 (f_X11_keptBy_4 N) N) x1 x3 0 x2 S15 else (f_X11_keptBy_27 (f_X11_keptBy_4 N) N) x1 x3 1 x2 S15))
def f_X11_keptBy (N : Nat) (S : S2) (a1 : Int) : Option (Int × S2) := (f_X11_keptBy_4 N) a1 1 1 S
abbrev rmX11_keptBy : Room := { frames := 2, cells := 0, slots := 0, locals := 42 }
theorem hd_X11_keptBy : yX11_keptBy.cls ≠ "java/lang/invoke/MethodHandle" ∧ yX11_keptBy.cls ≠ "java/lang/invoke/VarHandle" ∧ (parseMethodDescriptor yX11_keptBy.desc).map (fun d => d.parameters.length) = some 1 := by decide +kernel
set_option maxRecDepth 100000 in
set_option maxHeartbeats 4000000 in
theorem w_X11_keptBy_27 {p : Program} (l : Launch) {e : Env} {s : State} {m : MethodId} {args : Array Value} {below : List Frame} {meth : Method} {c : Code} {X : XT} (hinj : XInj X nM) (hZ : ZOK (Zm X)) (C : CX p s m args meth c cX11_keptBy 4 RX11 (some .int) X nM (Zm X)) (out : Int × S2) (k4 : Int → Int → Int → S2 → Option (Int × S2)) (hk4 : ∀ (x1 : Int) (x2 : Int) (x3 : Int) (S : S2) (H : Heap) (locs : List Loc) (ls : Array Slot), k4 x1 x2 x3 S = some out → WH X shM nM s S H locs → lv_has ls 4 [(0, .ref (X.2.2 0)), (1, .int (iz x1)), (2, .int (iz x2)), (3, .int (iz x3))] → W p l e rmX11_keptBy s m args below meth c H locs 0 0 (QI X shM nM s args below out) (F0 m 4 ls [])) : ∀ (N : Nat), ∀ (x1 : Int) (x3 : Int) (y0 : Int) (y1 : Int) (S : S2) (H : Heap) (locs : List Loc) (ls : Array Slot), f_X11_keptBy_27 k4 N x1 x3 y0 y1 S = some out → WH X shM nM s S H locs → lv_has ls 4 [(0, .ref (X.2.2 0)), (1, .int (iz x1)), (3, .int (iz x3))] → W p l e rmX11_keptBy s m args below meth c H locs 0 0 (QI X shM nM s args below out) (F0 m 27 ls [.int (iz y0), .int (iz y1)]) := by
  intro N x1 x3 y0 y1 S H locs ls hf hw hl
  unfold f_X11_keptBy_27 at hf
  refine r_iadd C dX11_keptBy_27 ?_
  refine lv_istore_n (lv' := [(2, .int (iz (y1 + y0))), (0, .ref (X.2.2 0)), (1, .int (iz x1)), (3, .int (iz x3))]) C.1.1 C.1.2.1 dX11_keptBy_28 rfl hl (by decide) rfl (fun ls hl => ?_)
  refine lv_iinc (v := iz (x3 + 1)) (lv' := [(3, .int (iz (x3 + 1))), (2, .int (iz (y1 + y0))), (0, .ref (X.2.2 0)), (1, .int (iz x1))]) C.1.1 C.1.2.1 dX11_keptBy_29 hl (k := 3) rfl (iz_add _ _) (by decide) rfl (fun ls hl => ?_)
  refine lv_goto (tgt := 4) C.1.1 C.1.2.1 dX11_keptBy_32 (by decide) ?_
  exact hk4 x1 (y1 + y0) (x3 + 1) S H locs ls hf hw (lv_sub hl [2, 3, 1, 0] rfl)
set_option maxRecDepth 100000 in
set_option maxHeartbeats 4000000 in
theorem w_X11_keptBy_4 {p : Program} (l : Launch) {e : Env} {s : State} {m : MethodId} {args : Array Value} {below : List Frame} {meth : Method} {c : Code} {X : XT} (hinj : XInj X nM) (hZ : ZOK (Zm X)) (C : CX p s m args meth c cX11_keptBy 4 RX11 (some .int) X nM (Zm X)) (out : Int × S2) : ∀ (N : Nat), ∀ (x1 : Int) (x2 : Int) (x3 : Int) (S : S2) (H : Heap) (locs : List Loc) (ls : Array Slot), f_X11_keptBy_4 N x1 x2 x3 S = some out → WH X shM nM s S H locs → lv_has ls 4 [(0, .ref (X.2.2 0)), (1, .int (iz x1)), (2, .int (iz x2)), (3, .int (iz x3))] → W p l e rmX11_keptBy s m args below meth c H locs 0 0 (QI X shM nM s args below out) (F0 m 4 ls []) := by
  intro N
  induction N with
  | zero => intro x1 x2 x3 S H locs ls hf hw hl; cases hf
  | succ N ih =>
    intro x1 x2 x3 S H locs ls hf hw hl
    rw [f_X11_keptBy_4.eq_2] at hf
    refine lv_iload_n C.1.1 C.1.2.1 dX11_keptBy_4 rfl (lv_at hl 3 rfl) ?_
    refine lv_aload_n C.1.1 C.1.2.1 dX11_keptBy_5 rfl (lv_at hl 0 rfl) ?_
    refine r_getI (k := 35) C hw shM_0 ltM_0 cO11 rfl (by decide) tw5_179 rfl dX11_keptBy_6 hf (fun v6 hf => ?_)
    refine r_icmp_ge C (tgt := 35) dX11_keptBy_9 (by decide) hf (fun hf => ?_) (fun hf => ?_)
    · refine lv_iload_n C.1.1 C.1.2.1 dX11_keptBy_35 rfl (lv_at hl 2 rfl) ?_
      exact r_retI C hw dX11_keptBy_36 hf
    · refine lv_iload_n C.1.1 C.1.2.1 dX11_keptBy_12 rfl (lv_at hl 2 rfl) ?_
      refine lv_aload_n C.1.1 C.1.2.1 dX11_keptBy_13 rfl (lv_at hl 0 rfl) ?_
      refine lv_iload_n C.1.1 C.1.2.1 dX11_keptBy_14 rfl (lv_at hl 3 rfl) ?_
      refine r_callI (As := [.int (iz x3)]) (rest := [.int (iz x2)]) (rm := rmX11_life) C hw shM_0 ltM_0 cO11 tw7_174 tw7_176 tp_96 tw1_12 tw7_177 hd_X11_life rfl ⟨⟨rfl, rfl⟩, Nat.le_of_ble_eq_true rfl, Nat.le_of_ble_eq_true rfl⟩ hl.1 rfl (Nat.le_of_ble_eq_true rfl) dX11_keptBy_15 hf (fun o ho => c_X11_life l X hinj hZ N S x3 o ho) (fun v15 S15 H locs hf hw => ?_)
      refine lv_iload_n C.1.1 C.1.2.1 dX11_keptBy_18 rfl (lv_at hl 1 rfl) ?_
      refine r_icmp_le C (tgt := 26) dX11_keptBy_19 (by decide) hf (fun hf => ?_) (fun hf => ?_)
      · refine r_iconst (v := 0) C dX11_keptBy_26 ?_
        exact (w_X11_keptBy_27 l hinj hZ C out (f_X11_keptBy_4 N) ih N) x1 x3 0 x2 S15 H locs ls hf hw (lv_sub hl [0, 1, 3] rfl)
      · refine r_iconst (v := 1) C dX11_keptBy_22 ?_
        refine lv_goto (tgt := 27) C.1.1 C.1.2.1 dX11_keptBy_23 (by decide) ?_
        exact (w_X11_keptBy_27 l hinj hZ C out (f_X11_keptBy_4 N) ih N) x1 x3 1 x2 S15 H locs ls hf hw (lv_sub hl [0, 1, 3] rfl)
set_option maxRecDepth 100000 in
set_option maxHeartbeats 4000000 in
theorem c_X11_keptBy (l : Launch) (X : XT) (hinj : XInj X nM) (hZ : ZOK (Zm X)) (N : Nat) (S : S2) (a1 : Int) (out : Int × S2) (hf : f_X11_keptBy N S a1 = some out) : MI l X shM nM (Zm X) yX11_keptBy cX11_keptBy 4 (some .int) rmX11_keptBy [.ref (X.2.2 0), .int (iz a1)] S out := by
  refine met_I (own := RX11) (by decide) rfl hinj hZ (Nat.le_of_ble_eq_true rfl) (fun p e s m args below meth c C ls H locs hw hl => ?_)
  unfold f_X11_keptBy at hf
  have hl : lv_has ls 4 [(0, .ref (X.2.2 0)), (1, .int (iz a1))] := hl
  refine r_iconst (v := 1) C dX11_keptBy_0 ?_
  refine lv_istore_n (lv' := [(2, .int (iz 1)), (0, .ref (X.2.2 0)), (1, .int (iz a1))]) C.1.1 C.1.2.1 dX11_keptBy_1 rfl hl (by decide) rfl (fun ls hl => ?_)
  refine r_iconst (v := 1) C dX11_keptBy_2 ?_
  refine lv_istore_n (lv' := [(3, .int (iz 1)), (2, .int (iz 1)), (0, .ref (X.2.2 0)), (1, .int (iz a1))]) C.1.1 C.1.2.1 dX11_keptBy_3 rfl hl (by decide) rfl (fun ls hl => ?_)
  exact (w_X11_keptBy_4 l hinj hZ C out N) a1 1 1 S H locs ls hf hw (lv_sub hl [2, 3, 1, 0] rfl)
def f_X11_putAside_2 : Nat → Int → S2 → Option (S2)
  | 0, _, _ => none
  | N + 1, x1, S => cI x1 50 (if 50 ≤ x1 then rV S else aI S 8 231 x1 fun v18 => sI S 25 50 x1 v18 fun S19 => (f_X11_putAside_2 N) (x1 + 1) S19)
def f_X11_putAside (N : Nat) (S : S2) : Option (S2) := (f_X11_putAside_2 N) 0 S
abbrev rmX11_putAside : Room := { frames := 0, cells := 0, slots := 0, locals := 0 }
theorem hd_X11_putAside : yX11_putAside.cls ≠ "java/lang/invoke/MethodHandle" ∧ yX11_putAside.cls ≠ "java/lang/invoke/VarHandle" ∧ (parseMethodDescriptor yX11_putAside.desc).map (fun d => d.parameters.length) = some 0 := by decide +kernel
set_option maxRecDepth 100000 in
set_option maxHeartbeats 4000000 in
theorem w_X11_putAside_2 {p : Program} (l : Launch) {e : Env} {s : State} {m : MethodId} {args : Array Value} {below : List Frame} {meth : Method} {c : Code} {X : XT} (hinj : XInj X nM) (hZ : ZOK (Zm X)) (C : CX p s m args meth c cX11_putAside 2 RX11 none X nM (Zm X)) (out : S2) : ∀ (N : Nat), ∀ (x1 : Int) (S : S2) (H : Heap) (locs : List Loc) (ls : Array Slot), f_X11_putAside_2 N x1 S = some out → WH X shM nM s S H locs → lv_has ls 2 [(0, .ref (X.2.2 0)), (1, .int (iz x1))] → W p l e rmX11_putAside s m args below meth c H locs 0 0 (QV X shM nM s args below out) (F0 m 2 ls []) := by
  intro N
  induction N with
  | zero => intro x1 S H locs ls hf hw hl; cases hf
  | succ N ih =>
    intro x1 S H locs ls hf hw hl
    rw [f_X11_putAside_2.eq_2] at hf
    refine lv_iload_n C.1.1 C.1.2.1 dX11_putAside_2 rfl (lv_at hl 1 rfl) ?_
    refine r_bipush (v := 50) C dX11_putAside_3 (by decide) ?_
    refine r_icmp_ge C (tgt := 26) dX11_putAside_5 (by decide) hf (fun hf => ?_) (fun hf => ?_)
    · exact r_retV C hw dX11_putAside_26 hf
    · refine lv_aload_n C.1.1 C.1.2.1 dX11_putAside_8 rfl (lv_at hl 0 rfl) ?_
      refine r_getR (k := 48) C hw shM_0 ltM_0 cO11 rfl (by decide) tw5_192 rfl dX11_putAside_9 ?_
      refine lv_iload_n C.1.1 C.1.2.1 dX11_putAside_12 rfl (lv_at hl 1 rfl) ?_
      refine lv_aload_n C.1.1 C.1.2.1 dX11_putAside_13 rfl (lv_at hl 0 rfl) ?_
      refine r_getR (k := 22) C hw shM_0 ltM_0 cO11 rfl (by decide) tw5_166 rfl dX11_putAside_14 ?_
      refine lv_iload_n C.1.1 C.1.2.1 dX11_putAside_17 rfl (lv_at hl 1 rfl) ?_
      refine r_iald C hw shM_8 ltM_8 (Nat.le_of_ble_eq_true rfl) dX11_putAside_18 hf (fun v18 hf => ?_)
      refine r_iast C hw shM_25 ltM_25 (Nat.le_of_ble_eq_true rfl) dX11_putAside_19 hf (fun S19 H locs hf hw => ?_)
      refine lv_iinc (v := iz (x1 + 1)) (lv' := [(1, .int (iz (x1 + 1))), (0, .ref (X.2.2 0))]) C.1.1 C.1.2.1 dX11_putAside_20 hl (k := 1) rfl (iz_add _ _) (by decide) rfl (fun ls hl => ?_)
      refine lv_goto (tgt := 2) C.1.1 C.1.2.1 dX11_putAside_23 (by decide) ?_
      exact ih (x1 + 1) S19 H locs ls hf hw (lv_sub hl [1, 0] rfl)
set_option maxRecDepth 100000 in
set_option maxHeartbeats 4000000 in
theorem c_X11_putAside (l : Launch) (X : XT) (hinj : XInj X nM) (hZ : ZOK (Zm X)) (N : Nat) (S : S2) (out : S2) (hf : f_X11_putAside N S = some out) : MV l X shM nM (Zm X) yX11_putAside cX11_putAside 2 none rmX11_putAside [.ref (X.2.2 0)] S out := by
  refine met_V (own := RX11) (by decide) rfl hinj hZ (Nat.le_of_ble_eq_true rfl) (fun p e s m args below meth c C ls H locs hw hl => ?_)
  unfold f_X11_putAside at hf
  have hl : lv_has ls 2 [(0, .ref (X.2.2 0))] := hl
  refine r_iconst (v := 0) C dX11_putAside_0 ?_
  refine lv_istore_n (lv' := [(1, .int (iz 0)), (0, .ref (X.2.2 0))]) C.1.1 C.1.2.1 dX11_putAside_1 rfl hl (by decide) rfl (fun ls hl => ?_)
  exact (w_X11_putAside_2 l hinj hZ C out N) 0 S H locs ls hf hw (lv_sub hl [1, 0] rfl)
def f_X11_bringBack_2 : Nat → Int → S2 → Option (S2)
  | 0, _, _ => none
  | N + 1, x1, S => cI x1 50 (if 50 ≤ x1 then rV S else aI S 25 50 x1 fun v18 => sI S 8 231 x1 v18 fun S19 => (f_X11_bringBack_2 N) (x1 + 1) S19)
def f_X11_bringBack (N : Nat) (S : S2) : Option (S2) := (f_X11_bringBack_2 N) 0 S
abbrev rmX11_bringBack : Room := { frames := 0, cells := 0, slots := 0, locals := 0 }
theorem hd_X11_bringBack : yX11_bringBack.cls ≠ "java/lang/invoke/MethodHandle" ∧ yX11_bringBack.cls ≠ "java/lang/invoke/VarHandle" ∧ (parseMethodDescriptor yX11_bringBack.desc).map (fun d => d.parameters.length) = some 0 := by decide +kernel
set_option maxRecDepth 100000 in
set_option maxHeartbeats 4000000 in
theorem w_X11_bringBack_2 {p : Program} (l : Launch) {e : Env} {s : State} {m : MethodId} {args : Array Value} {below : List Frame} {meth : Method} {c : Code} {X : XT} (hinj : XInj X nM) (hZ : ZOK (Zm X)) (C : CX p s m args meth c cX11_bringBack 2 RX11 none X nM (Zm X)) (out : S2) : ∀ (N : Nat), ∀ (x1 : Int) (S : S2) (H : Heap) (locs : List Loc) (ls : Array Slot), f_X11_bringBack_2 N x1 S = some out → WH X shM nM s S H locs → lv_has ls 2 [(0, .ref (X.2.2 0)), (1, .int (iz x1))] → W p l e rmX11_bringBack s m args below meth c H locs 0 0 (QV X shM nM s args below out) (F0 m 2 ls []) := by
  intro N
  induction N with
  | zero => intro x1 S H locs ls hf hw hl; cases hf
  | succ N ih =>
    intro x1 S H locs ls hf hw hl
    rw [f_X11_bringBack_2.eq_2] at hf
    refine lv_iload_n C.1.1 C.1.2.1 dX11_bringBack_2 rfl (lv_at hl 1 rfl) ?_
    refine r_bipush (v := 50) C dX11_bringBack_3 (by decide) ?_
    refine r_icmp_ge C (tgt := 26) dX11_bringBack_5 (by decide) hf (fun hf => ?_) (fun hf => ?_)
    · exact r_retV C hw dX11_bringBack_26 hf
    · refine lv_aload_n C.1.1 C.1.2.1 dX11_bringBack_8 rfl (lv_at hl 0 rfl) ?_
      refine r_getR (k := 22) C hw shM_0 ltM_0 cO11 rfl (by decide) tw5_166 rfl dX11_bringBack_9 ?_
      refine lv_iload_n C.1.1 C.1.2.1 dX11_bringBack_12 rfl (lv_at hl 1 rfl) ?_
      refine lv_aload_n C.1.1 C.1.2.1 dX11_bringBack_13 rfl (lv_at hl 0 rfl) ?_
      refine r_getR (k := 48) C hw shM_0 ltM_0 cO11 rfl (by decide) tw5_192 rfl dX11_bringBack_14 ?_
      refine lv_iload_n C.1.1 C.1.2.1 dX11_bringBack_17 rfl (lv_at hl 1 rfl) ?_
      refine r_iald C hw shM_25 ltM_25 (Nat.le_of_ble_eq_true rfl) dX11_bringBack_18 hf (fun v18 hf => ?_)
      refine r_iast C hw shM_8 ltM_8 (Nat.le_of_ble_eq_true rfl) dX11_bringBack_19 hf (fun S19 H locs hf hw => ?_)
      refine lv_iinc (v := iz (x1 + 1)) (lv' := [(1, .int (iz (x1 + 1))), (0, .ref (X.2.2 0))]) C.1.1 C.1.2.1 dX11_bringBack_20 hl (k := 1) rfl (iz_add _ _) (by decide) rfl (fun ls hl => ?_)
      refine lv_goto (tgt := 2) C.1.1 C.1.2.1 dX11_bringBack_23 (by decide) ?_
      exact ih (x1 + 1) S19 H locs ls hf hw (lv_sub hl [1, 0] rfl)
set_option maxRecDepth 100000 in
set_option maxHeartbeats 4000000 in
theorem c_X11_bringBack (l : Launch) (X : XT) (hinj : XInj X nM) (hZ : ZOK (Zm X)) (N : Nat) (S : S2) (out : S2) (hf : f_X11_bringBack N S = some out) : MV l X shM nM (Zm X) yX11_bringBack cX11_bringBack 2 none rmX11_bringBack [.ref (X.2.2 0)] S out := by
  refine met_V (own := RX11) (by decide) rfl hinj hZ (Nat.le_of_ble_eq_true rfl) (fun p e s m args below meth c C ls H locs hw hl => ?_)
  unfold f_X11_bringBack at hf
  have hl : lv_has ls 2 [(0, .ref (X.2.2 0))] := hl
  refine r_iconst (v := 0) C dX11_bringBack_0 ?_
  refine lv_istore_n (lv' := [(1, .int (iz 0)), (0, .ref (X.2.2 0))]) C.1.1 C.1.2.1 dX11_bringBack_1 rfl hl (by decide) rfl (fun ls hl => ?_)
  exact (w_X11_bringBack_2 l hinj hZ C out N) 0 S H locs ls hf hw (lv_sub hl [1, 0] rfl)
def f_X11_tallestOf_73 (k4 : Int → Int → Int → S2 → Option (Int × S2)) (N : Nat) (x1 : Int) (x3 : Int) (y0 : Int) (S : S2) : Option (Int × S2) := k4 x1 y0 (x3 + 1) S
def f_X11_tallestOf_72 (k4 : Int → Int → Int → S2 → Option (Int × S2)) (N : Nat) (x1 : Int) (x2 : Int) (x3 : Int) (S : S2) : Option (Int × S2) := (f_X11_tallestOf_73 k4 N) x1 x3 x2 S
def f_X11_tallestOf_68 (k4 : Int → Int → Int → S2 → Option (Int × S2)) (N : Nat) (x1 : Int) (x3 : Int) (S : S2) : Option (Int × S2) := (f_X11_tallestOf_73 k4 N) x1 x3 x3 S
def f_X11_tallestOf_43 (k4 : Int → Int → Int → S2 → Option (Int × S2)) (N : Nat) (x1 : Int) (x2 : Int) (x3 : Int) (y0 : Int) (S : S2) : Option (Int × S2) := cI y0 0 (if y0 = 0 then (f_X11_tallestOf_72 k4 N) x1 x2 x3 S else cI x2 (-1) (if x2 = (-1) then (f_X11_tallestOf_68 k4 N) x1 x3 S else bI (f_X11_height N S x3) fun v57 S57 => bI (f_X11_height N S57 x2) fun v62 S62 => cI v57 v62 (if v57 ≤ v62 then (f_X11_tallestOf_72 k4 N) x1 x2 x3 S62 else (f_X11_tallestOf_68 k4 N) x1 x3 S62)))
def f_X11_tallestOf_4 : Nat → Int → Int → Int → S2 → Option (Int × S2)
  | 0, _, _, _, _ => none
  | N + 1, x1, x2, x3, S => gI S 0 35 fun v6 => cI x3 v6 (if v6 ≤ x3 then rI x2 S else cI x1 (-1) (if x1 = (-1) then cI x3 0 (if x3 ≤ 0 then (f_X11_tallestOf_43 (f_X11_tallestOf_4 N) N) x1 x2 x3 0 S else (f_X11_tallestOf_43 (f_X11_tallestOf_4 N) N) x1 x2 x3 1 S) else bI (f_X11_generationOf N S x3) fun v31 S31 => cI v31 x1 (if v31 = x1 then (f_X11_tallestOf_43 (f_X11_tallestOf_4 N) N) x1 x2 x3 1 S31 else (f_X11_tallestOf_43 (f_X11_tallestOf_4 N) N) x1 x2 x3 0 S31)))
def f_X11_tallestOf (N : Nat) (S : S2) (a1 : Int) : Option (Int × S2) := (f_X11_tallestOf_4 N) a1 (-1) 0 S
abbrev rmX11_tallestOf : Room := { frames := 2, cells := 0, slots := 0, locals := 42 }
theorem hd_X11_tallestOf : yX11_tallestOf.cls ≠ "java/lang/invoke/MethodHandle" ∧ yX11_tallestOf.cls ≠ "java/lang/invoke/VarHandle" ∧ (parseMethodDescriptor yX11_tallestOf.desc).map (fun d => d.parameters.length) = some 1 := by decide +kernel
set_option maxRecDepth 100000 in
set_option maxHeartbeats 4000000 in
theorem w_X11_tallestOf_73 {p : Program} (l : Launch) {e : Env} {s : State} {m : MethodId} {args : Array Value} {below : List Frame} {meth : Method} {c : Code} {X : XT} (hinj : XInj X nM) (hZ : ZOK (Zm X)) (C : CX p s m args meth c cX11_tallestOf 5 RX11 (some .int) X nM (Zm X)) (out : Int × S2) (k4 : Int → Int → Int → S2 → Option (Int × S2)) (hk4 : ∀ (x1 : Int) (x2 : Int) (x3 : Int) (S : S2) (H : Heap) (locs : List Loc) (ls : Array Slot), k4 x1 x2 x3 S = some out → WH X shM nM s S H locs → lv_has ls 5 [(0, .ref (X.2.2 0)), (1, .int (iz x1)), (2, .int (iz x2)), (3, .int (iz x3))] → W p l e rmX11_tallestOf s m args below meth c H locs 0 0 (QI X shM nM s args below out) (F0 m 4 ls [])) : ∀ (N : Nat), ∀ (x1 : Int) (x3 : Int) (y0 : Int) (S : S2) (H : Heap) (locs : List Loc) (ls : Array Slot), f_X11_tallestOf_73 k4 N x1 x3 y0 S = some out → WH X shM nM s S H locs → lv_has ls 5 [(0, .ref (X.2.2 0)), (1, .int (iz x1)), (3, .int (iz x3))] → W p l e rmX11_tallestOf s m args below meth c H locs 0 0 (QI X shM nM s args below out) (F0 m 73 ls [.int (iz y0)]) := by
  intro N x1 x3 y0 S H locs ls hf hw hl
  unfold f_X11_tallestOf_73 at hf
  refine lv_istore_n (lv' := [(2, .int (iz y0)), (0, .ref (X.2.2 0)), (1, .int (iz x1)), (3, .int (iz x3))]) C.1.1 C.1.2.1 dX11_tallestOf_73 rfl hl (by decide) rfl (fun ls hl => ?_)
  refine lv_iinc (v := iz (x3 + 1)) (lv' := [(3, .int (iz (x3 + 1))), (2, .int (iz y0)), (0, .ref (X.2.2 0)), (1, .int (iz x1))]) C.1.1 C.1.2.1 dX11_tallestOf_74 hl (k := 3) rfl (iz_add _ _) (by decide) rfl (fun ls hl => ?_)
  refine lv_goto (tgt := 4) C.1.1 C.1.2.1 dX11_tallestOf_77 (by decide) ?_
  exact hk4 x1 y0 (x3 + 1) S H locs ls hf hw (lv_sub hl [2, 3, 1, 0] rfl)
set_option maxRecDepth 100000 in
set_option maxHeartbeats 4000000 in
theorem w_X11_tallestOf_72 {p : Program} (l : Launch) {e : Env} {s : State} {m : MethodId} {args : Array Value} {below : List Frame} {meth : Method} {c : Code} {X : XT} (hinj : XInj X nM) (hZ : ZOK (Zm X)) (C : CX p s m args meth c cX11_tallestOf 5 RX11 (some .int) X nM (Zm X)) (out : Int × S2) (k4 : Int → Int → Int → S2 → Option (Int × S2)) (hk4 : ∀ (x1 : Int) (x2 : Int) (x3 : Int) (S : S2) (H : Heap) (locs : List Loc) (ls : Array Slot), k4 x1 x2 x3 S = some out → WH X shM nM s S H locs → lv_has ls 5 [(0, .ref (X.2.2 0)), (1, .int (iz x1)), (2, .int (iz x2)), (3, .int (iz x3))] → W p l e rmX11_tallestOf s m args below meth c H locs 0 0 (QI X shM nM s args below out) (F0 m 4 ls [])) : ∀ (N : Nat), ∀ (x1 : Int) (x2 : Int) (x3 : Int) (S : S2) (H : Heap) (locs : List Loc) (ls : Array Slot), f_X11_tallestOf_72 k4 N x1 x2 x3 S = some out → WH X shM nM s S H locs → lv_has ls 5 [(0, .ref (X.2.2 0)), (1, .int (iz x1)), (2, .int (iz x2)), (3, .int (iz x3))] → W p l e rmX11_tallestOf s m args below meth c H locs 0 0 (QI X shM nM s args below out) (F0 m 72 ls []) := by
  intro N x1 x2 x3 S H locs ls hf hw hl
  unfold f_X11_tallestOf_72 at hf
  refine lv_iload_n C.1.1 C.1.2.1 dX11_tallestOf_72 rfl (lv_at hl 2 rfl) ?_
  exact (w_X11_tallestOf_73 l hinj hZ C out k4 hk4 N) x1 x3 x2 S H locs ls hf hw (lv_sub hl [0, 1, 3] rfl)
set_option maxRecDepth 100000 in
set_option maxHeartbeats 4000000 in
theorem w_X11_tallestOf_68 {p : Program} (l : Launch) {e : Env} {s : State} {m : MethodId} {args : Array Value} {below : List Frame} {meth : Method} {c : Code} {X : XT} (hinj : XInj X nM) (hZ : ZOK (Zm X)) (C : CX p s m args meth c cX11_tallestOf 5 RX11 (some .int) X nM (Zm X)) (out : Int × S2) (k4 : Int → Int → Int → S2 → Option (Int × S2)) (hk4 : ∀ (x1 : Int) (x2 : Int) (x3 : Int) (S : S2) (H : Heap) (locs : List Loc) (ls : Array Slot), k4 x1 x2 x3 S = some out → WH X shM nM s S H locs → lv_has ls 5 [(0, .ref (X.2.2 0)), (1, .int (iz x1)), (2, .int (iz x2)), (3, .int (iz x3))] → W p l e rmX11_tallestOf s m args below meth c H locs 0 0 (QI X shM nM s args below out) (F0 m 4 ls [])) : ∀ (N : Nat), ∀ (x1 : Int) (x3 : Int) (S : S2) (H : Heap) (locs : List Loc) (ls : Array Slot), f_X11_tallestOf_68 k4 N x1 x3 S = some out → WH X shM nM s S H locs → lv_has ls 5 [(0, .ref (X.2.2 0)), (1, .int (iz x1)), (3, .int (iz x3))] → W p l e rmX11_tallestOf s m args below meth c H locs 0 0 (QI X shM nM s args below out) (F0 m 68 ls []) := by
  intro N x1 x3 S H locs ls hf hw hl
  unfold f_X11_tallestOf_68 at hf
  refine lv_iload_n C.1.1 C.1.2.1 dX11_tallestOf_68 rfl (lv_at hl 2 rfl) ?_
  refine lv_goto (tgt := 73) C.1.1 C.1.2.1 dX11_tallestOf_69 (by decide) ?_
  exact (w_X11_tallestOf_73 l hinj hZ C out k4 hk4 N) x1 x3 x3 S H locs ls hf hw (lv_sub hl [0, 1, 2] rfl)
set_option maxRecDepth 100000 in
set_option maxHeartbeats 4000000 in
theorem w_X11_tallestOf_43 {p : Program} (l : Launch) {e : Env} {s : State} {m : MethodId} {args : Array Value} {below : List Frame} {meth : Method} {c : Code} {X : XT} (hinj : XInj X nM) (hZ : ZOK (Zm X)) (C : CX p s m args meth c cX11_tallestOf 5 RX11 (some .int) X nM (Zm X)) (out : Int × S2) (k4 : Int → Int → Int → S2 → Option (Int × S2)) (hk4 : ∀ (x1 : Int) (x2 : Int) (x3 : Int) (S : S2) (H : Heap) (locs : List Loc) (ls : Array Slot), k4 x1 x2 x3 S = some out → WH X shM nM s S H locs → lv_has ls 5 [(0, .ref (X.2.2 0)), (1, .int (iz x1)), (2, .int (iz x2)), (3, .int (iz x3))] → W p l e rmX11_tallestOf s m args below meth c H locs 0 0 (QI X shM nM s args below out) (F0 m 4 ls [])) : ∀ (N : Nat), ∀ (x1 : Int) (x2 : Int) (x3 : Int) (y0 : Int) (S : S2) (H : Heap) (locs : List Loc) (ls : Array Slot), f_X11_tallestOf_43 k4 N x1 x2 x3 y0 S = some out → WH X shM nM s S H locs → lv_has ls 5 [(0, .ref (X.2.2 0)), (1, .int (iz x1)), (2, .int (iz x2)), (3, .int (iz x3))] → W p l e rmX11_tallestOf s m args below meth c H locs 0 0 (QI X shM nM s args below out) (F0 m 43 ls [.int (iz y0)]) := by
  intro N x1 x2 x3 y0 S H locs ls hf hw hl
  unfold f_X11_tallestOf_43 at hf
  refine lv_istore (lv' := [(4, .int (iz y0)), (0, .ref (X.2.2 0)), (1, .int (iz x1)), (2, .int (iz x2)), (3, .int (iz x3))]) C.1.1 C.1.2.1 dX11_tallestOf_43 hl (by decide) rfl (fun ls hl => ?_)
  refine lv_iload C.1.1 C.1.2.1 dX11_tallestOf_45 (lv_at hl 0 rfl) ?_
  refine r_if_eq C (tgt := 72) dX11_tallestOf_47 (by decide) hf (fun hf => ?_) (fun hf => ?_)
  · exact (w_X11_tallestOf_72 l hinj hZ C out k4 hk4 N) x1 x2 x3 S H locs ls hf hw (lv_sub hl [1, 2, 3, 4] rfl)
  · refine lv_iload_n C.1.1 C.1.2.1 dX11_tallestOf_50 rfl (lv_at hl 3 rfl) ?_
    refine r_iconst (v := (-1)) C dX11_tallestOf_51 ?_
    refine r_icmp_eq C (tgt := 68) dX11_tallestOf_52 (by decide) hf (fun hf => ?_) (fun hf => ?_)
    · exact (w_X11_tallestOf_68 l hinj hZ C out k4 hk4 N) x1 x3 S H locs ls hf hw (lv_sub hl [1, 2, 4] rfl)
    · refine lv_aload_n C.1.1 C.1.2.1 dX11_tallestOf_55 rfl (lv_at hl 1 rfl) ?_
      refine lv_iload_n C.1.1 C.1.2.1 dX11_tallestOf_56 rfl (lv_at hl 4 rfl) ?_
      refine r_callI (As := [.int (iz x3)]) (rest := []) (rm := rmX11_height) C hw shM_0 ltM_0 cO11 tw7_170 tw7_172 tp_95 tw1_12 tw7_173 hd_X11_height rfl ⟨⟨rfl, rfl⟩, Nat.le_of_ble_eq_true rfl, Nat.le_of_ble_eq_true rfl⟩ hl.1 rfl (Nat.le_of_ble_eq_true rfl) dX11_tallestOf_57 hf (fun o ho => c_X11_height l X hinj hZ N S x3 o ho) (fun v57 S57 H locs hf hw => ?_)
      refine lv_aload_n C.1.1 C.1.2.1 dX11_tallestOf_60 rfl (lv_at hl 1 rfl) ?_
      refine lv_iload_n C.1.1 C.1.2.1 dX11_tallestOf_61 rfl (lv_at hl 3 rfl) ?_
      refine r_callI (As := [.int (iz x2)]) (rest := [.int (iz v57)]) (rm := rmX11_height) C hw shM_0 ltM_0 cO11 tw7_170 tw7_172 tp_95 tw1_12 tw7_173 hd_X11_height rfl ⟨⟨rfl, rfl⟩, Nat.le_of_ble_eq_true rfl, Nat.le_of_ble_eq_true rfl⟩ hl.1 rfl (Nat.le_of_ble_eq_true rfl) dX11_tallestOf_62 hf (fun o ho => c_X11_height l X hinj hZ N S57 x2 o ho) (fun v62 S62 H locs hf hw => ?_)
      refine r_icmp_le C (tgt := 72) dX11_tallestOf_65 (by decide) hf (fun hf => ?_) (fun hf => ?_)
      · exact (w_X11_tallestOf_72 l hinj hZ C out k4 hk4 N) x1 x2 x3 S62 H locs ls hf hw (lv_sub hl [1, 2, 3, 4] rfl)
      · exact (w_X11_tallestOf_68 l hinj hZ C out k4 hk4 N) x1 x3 S62 H locs ls hf hw (lv_sub hl [1, 2, 4] rfl)
set_option maxRecDepth 100000 in
set_option maxHeartbeats 4000000 in
theorem w_X11_tallestOf_4 {p : Program} (l : Launch) {e : Env} {s : State} {m : MethodId} {args : Array Value} {below : List Frame} {meth : Method} {c : Code} {X : XT} (hinj : XInj X nM) (hZ : ZOK (Zm X)) (C : CX p s m args meth c cX11_tallestOf 5 RX11 (some .int) X nM (Zm X)) (out : Int × S2) : ∀ (N : Nat), ∀ (x1 : Int) (x2 : Int) (x3 : Int) (S : S2) (H : Heap) (locs : List Loc) (ls : Array Slot), f_X11_tallestOf_4 N x1 x2 x3 S = some out → WH X shM nM s S H locs → lv_has ls 5 [(0, .ref (X.2.2 0)), (1, .int (iz x1)), (2, .int (iz x2)), (3, .int (iz x3))] → W p l e rmX11_tallestOf s m args below meth c H locs 0 0 (QI X shM nM s args below out) (F0 m 4 ls []) := by
  intro N
  induction N with
  | zero => intro x1 x2 x3 S H locs ls hf hw hl; cases hf
  | succ N ih =>
    intro x1 x2 x3 S H locs ls hf hw hl
    rw [f_X11_tallestOf_4.eq_2] at hf
    refine lv_iload_n C.1.1 C.1.2.1 dX11_tallestOf_4 rfl (lv_at hl 3 rfl) ?_
    refine lv_aload_n C.1.1 C.1.2.1 dX11_tallestOf_5 rfl (lv_at hl 0 rfl) ?_
    refine r_getI (k := 35) C hw shM_0 ltM_0 cO11 rfl (by decide) tw5_179 rfl dX11_tallestOf_6 hf (fun v6 hf => ?_)
    refine r_icmp_ge C (tgt := 80) dX11_tallestOf_9 (by decide) hf (fun hf => ?_) (fun hf => ?_)
    · refine lv_iload_n C.1.1 C.1.2.1 dX11_tallestOf_80 rfl (lv_at hl 2 rfl) ?_
      exact r_retI C hw dX11_tallestOf_81 hf
    · refine lv_iload_n C.1.1 C.1.2.1 dX11_tallestOf_12 rfl (lv_at hl 1 rfl) ?_
      refine r_iconst (v := (-1)) C dX11_tallestOf_13 ?_
      refine r_icmp_ne C (tgt := 29) dX11_tallestOf_14 (by decide) hf (fun hf => ?_) (fun hf => ?_)
      · refine lv_aload_n C.1.1 C.1.2.1 dX11_tallestOf_29 rfl (lv_at hl 0 rfl) ?_
        refine lv_iload_n C.1.1 C.1.2.1 dX11_tallestOf_30 rfl (lv_at hl 3 rfl) ?_
        refine r_callI (As := [.int (iz x3)]) (rest := []) (rm := rmX11_generationOf) C hw shM_0 ltM_0 cO11 tw7_182 tw7_184 tp_98 tw1_12 tw7_185 hd_X11_generationOf rfl ⟨⟨rfl, rfl⟩, Nat.le_of_ble_eq_true rfl, Nat.le_of_ble_eq_true rfl⟩ hl.1 rfl (Nat.le_of_ble_eq_true rfl) dX11_tallestOf_31 hf (fun o ho => c_X11_generationOf l X hinj hZ N S x3 o ho) (fun v31 S31 H locs hf hw => ?_)
        refine lv_iload_n C.1.1 C.1.2.1 dX11_tallestOf_34 rfl (lv_at hl 1 rfl) ?_
        refine r_icmp_ne C (tgt := 42) dX11_tallestOf_35 (by decide) hf (fun hf => ?_) (fun hf => ?_)
        · refine r_iconst (v := 0) C dX11_tallestOf_42 ?_
          exact (w_X11_tallestOf_43 l hinj hZ C out (f_X11_tallestOf_4 N) ih N) x1 x2 x3 0 S31 H locs ls hf hw (lv_sub hl [0, 1, 2, 3] rfl)
        · refine r_iconst (v := 1) C dX11_tallestOf_38 ?_
          refine lv_goto (tgt := 43) C.1.1 C.1.2.1 dX11_tallestOf_39 (by decide) ?_
          exact (w_X11_tallestOf_43 l hinj hZ C out (f_X11_tallestOf_4 N) ih N) x1 x2 x3 1 S31 H locs ls hf hw (lv_sub hl [0, 1, 2, 3] rfl)
      · refine lv_iload_n C.1.1 C.1.2.1 dX11_tallestOf_17 rfl (lv_at hl 3 rfl) ?_
        refine r_if_le C (tgt := 25) dX11_tallestOf_18 (by decide) hf (fun hf => ?_) (fun hf => ?_)
        · refine r_iconst (v := 0) C dX11_tallestOf_25 ?_
          refine lv_goto (tgt := 43) C.1.1 C.1.2.1 dX11_tallestOf_26 (by decide) ?_
          exact (w_X11_tallestOf_43 l hinj hZ C out (f_X11_tallestOf_4 N) ih N) x1 x2 x3 0 S H locs ls hf hw (lv_sub hl [0, 1, 2, 3] rfl)
        · refine r_iconst (v := 1) C dX11_tallestOf_21 ?_
          refine lv_goto (tgt := 43) C.1.1 C.1.2.1 dX11_tallestOf_22 (by decide) ?_
          exact (w_X11_tallestOf_43 l hinj hZ C out (f_X11_tallestOf_4 N) ih N) x1 x2 x3 1 S H locs ls hf hw (lv_sub hl [0, 1, 2, 3] rfl)
set_option maxRecDepth 100000 in
set_option maxHeartbeats 4000000 in
theorem c_X11_tallestOf (l : Launch) (X : XT) (hinj : XInj X nM) (hZ : ZOK (Zm X)) (N : Nat) (S : S2) (a1 : Int) (out : Int × S2) (hf : f_X11_tallestOf N S a1 = some out) : MI l X shM nM (Zm X) yX11_tallestOf cX11_tallestOf 5 (some .int) rmX11_tallestOf [.ref (X.2.2 0), .int (iz a1)] S out := by
  refine met_I (own := RX11) (by decide) rfl hinj hZ (Nat.le_of_ble_eq_true rfl) (fun p e s m args below meth c C ls H locs hw hl => ?_)
  unfold f_X11_tallestOf at hf
  have hl : lv_has ls 5 [(0, .ref (X.2.2 0)), (1, .int (iz a1))] := hl
  refine r_iconst (v := (-1)) C dX11_tallestOf_0 ?_
  refine lv_istore_n (lv' := [(2, .int (iz (-1))), (0, .ref (X.2.2 0)), (1, .int (iz a1))]) C.1.1 C.1.2.1 dX11_tallestOf_1 rfl hl (by decide) rfl (fun ls hl => ?_)
  refine r_iconst (v := 0) C dX11_tallestOf_2 ?_
  refine lv_istore_n (lv' := [(3, .int (iz 0)), (2, .int (iz (-1))), (0, .ref (X.2.2 0)), (1, .int (iz a1))]) C.1.1 C.1.2.1 dX11_tallestOf_3 rfl hl (by decide) rfl (fun ls hl => ?_)
  exact (w_X11_tallestOf_4 l hinj hZ C out N) a1 (-1) 0 S H locs ls hf hw (lv_sub hl [2, 3, 1, 0] rfl)
def f_X11_spells (N : Nat) (S : S2) (a1 : Int) : Option (S2) := gI S 0 51 fun v5 => sI S 27 40 v5 a1 fun S9 => gI S9 0 51 fun v12 => uI S9 0 51 (v12 + 1) fun S17 => rV S17
abbrev rmX11_spells : Room := { frames := 0, cells := 0, slots := 0, locals := 0 }
theorem hd_X11_spells : yX11_spells.cls ≠ "java/lang/invoke/MethodHandle" ∧ yX11_spells.cls ≠ "java/lang/invoke/VarHandle" ∧ (parseMethodDescriptor yX11_spells.desc).map (fun d => d.parameters.length) = some 1 := by decide +kernel
set_option maxRecDepth 100000 in
set_option maxHeartbeats 4000000 in
theorem c_X11_spells (l : Launch) (X : XT) (hinj : XInj X nM) (hZ : ZOK (Zm X)) (N : Nat) (S : S2) (a1 : Int) (out : S2) (hf : f_X11_spells N S a1 = some out) : MV l X shM nM (Zm X) yX11_spells cX11_spells 2 none rmX11_spells [.ref (X.2.2 0), .int (iz a1)] S out := by
  refine met_V (own := RX11) (by decide) rfl hinj hZ (Nat.le_of_ble_eq_true rfl) (fun p e s m args below meth c C ls H locs hw hl => ?_)
  unfold f_X11_spells at hf
  have hl : lv_has ls 2 [(0, .ref (X.2.2 0)), (1, .int (iz a1))] := hl
  refine lv_aload_n C.1.1 C.1.2.1 dX11_spells_0 rfl (lv_at hl 0 rfl) ?_
  refine r_getR (k := 50) C hw shM_0 ltM_0 cO11 rfl (by decide) tw5_194 rfl dX11_spells_1 ?_
  refine lv_aload_n C.1.1 C.1.2.1 dX11_spells_4 rfl (lv_at hl 0 rfl) ?_
  refine r_getI (k := 51) C hw shM_0 ltM_0 cO11 rfl (by decide) tw5_195 rfl dX11_spells_5 hf (fun v5 hf => ?_)
  refine lv_iload_n C.1.1 C.1.2.1 dX11_spells_8 rfl (lv_at hl 1 rfl) ?_
  refine r_iast C hw shM_27 ltM_27 (Nat.le_of_ble_eq_true rfl) dX11_spells_9 hf (fun S9 H locs hf hw => ?_)
  refine lv_aload_n C.1.1 C.1.2.1 dX11_spells_10 rfl (lv_at hl 0 rfl) ?_
  refine lv_dup C.1.1 C.1.2.1 dX11_spells_11 rfl ?_
  refine r_getI (k := 51) C hw shM_0 ltM_0 cO11 rfl (by decide) tw5_195 rfl dX11_spells_12 hf (fun v12 hf => ?_)
  refine r_iconst (v := 1) C dX11_spells_15 ?_
  refine r_iadd C dX11_spells_16 ?_
  refine r_putI (k := 51) C hw shM_0 ltM_0 cO11 rfl (by decide) tw5_195 rfl rfl rfl dX11_spells_17 hf (fun S17 H locs hf hw => ?_)
  exact r_retV C hw dX11_spells_20 hf
def f_X11_spellsNumber_18 : Nat → Int → Int → S2 → Option (S2)
  | 0, _, _, _ => none
  | N + 1, x1, x2, S => cI x2 0 (if x2 ≤ 0 then rV S else dvI x1 x2 fun v27 => rmI v27 10 fun v30 => bV (f_X11_spells N S (48 + v30)) fun S32 => dvI x2 10 fun v38 => (f_X11_spellsNumber_18 N) x1 v38 S32)
def f_X11_spellsNumber_2 (k18 : Int → Int → S2 → Option (S2)) : Nat → Int → Int → S2 → Option (S2)
  | 0, _, _, _ => none
  | N + 1, x1, x2, S => dvI x1 x2 fun v4 => cI v4 9 (if v4 ≤ 9 then k18 x1 x2 S else (f_X11_spellsNumber_2 k18 N) x1 (x2 * 10) S)
def f_X11_spellsNumber (N : Nat) (S : S2) (a1 : Int) : Option (S2) := (f_X11_spellsNumber_2 (f_X11_spellsNumber_18 N) N) a1 1 S
abbrev rmX11_spellsNumber : Room := { frames := 1, cells := 0, slots := 0, locals := 21 }
theorem hd_X11_spellsNumber : yX11_spellsNumber.cls ≠ "java/lang/invoke/MethodHandle" ∧ yX11_spellsNumber.cls ≠ "java/lang/invoke/VarHandle" ∧ (parseMethodDescriptor yX11_spellsNumber.desc).map (fun d => d.parameters.length) = some 1 := by decide +kernel
set_option maxRecDepth 100000 in
set_option maxHeartbeats 4000000 in
theorem w_X11_spellsNumber_18 {p : Program} (l : Launch) {e : Env} {s : State} {m : MethodId} {args : Array Value} {below : List Frame} {meth : Method} {c : Code} {X : XT} (hinj : XInj X nM) (hZ : ZOK (Zm X)) (C : CX p s m args meth c cX11_spellsNumber 3 RX11 none X nM (Zm X)) (out : S2) : ∀ (N : Nat), ∀ (x1 : Int) (x2 : Int) (S : S2) (H : Heap) (locs : List Loc) (ls : Array Slot), f_X11_spellsNumber_18 N x1 x2 S = some out → WH X shM nM s S H locs → lv_has ls 3 [(0, .ref (X.2.2 0)), (1, .int (iz x1)), (2, .int (iz x2))] → W p l e rmX11_spellsNumber s m args below meth c H locs 0 0 (QV X shM nM s args below out) (F0 m 18 ls []) := by
  intro N
  induction N with
  | zero => intro x1 x2 S H locs ls hf hw hl; cases hf
  | succ N ih =>
    intro x1 x2 S H locs ls hf hw hl
    rw [f_X11_spellsNumber_18.eq_2] at hf
    refine lv_iload_n C.1.1 C.1.2.1 dX11_spellsNumber_18 rfl (lv_at hl 2 rfl) ?_
    refine r_if_le C (tgt := 43) dX11_spellsNumber_19 (by decide) hf (fun hf => ?_) (fun hf => ?_)
    · exact r_retV C hw dX11_spellsNumber_43 hf
    · refine lv_aload_n C.1.1 C.1.2.1 dX11_spellsNumber_22 rfl (lv_at hl 0 rfl) ?_
      refine r_bipush (v := 48) C dX11_spellsNumber_23 (by decide) ?_
      refine lv_iload_n C.1.1 C.1.2.1 dX11_spellsNumber_25 rfl (lv_at hl 1 rfl) ?_
      refine lv_iload_n C.1.1 C.1.2.1 dX11_spellsNumber_26 rfl (lv_at hl 2 rfl) ?_
      refine r_idiv C dX11_spellsNumber_27 hf (fun v27 hf => ?_)
      refine r_bipush (v := 10) C dX11_spellsNumber_28 (by decide) ?_
      refine r_irem C dX11_spellsNumber_30 hf (fun v30 hf => ?_)
      refine r_iadd C dX11_spellsNumber_31 ?_
      refine r_callV (As := [.int (iz (48 + v30))]) (rest := []) (rm := rmX11_spells) C hw shM_0 ltM_0 cO11 tw8_63 tw8_65 tp_112 tw1_12 tw8_66 hd_X11_spells rfl ⟨⟨rfl, rfl⟩, Nat.le_of_ble_eq_true rfl, Nat.le_of_ble_eq_true rfl⟩ hl.1 rfl (Nat.le_of_ble_eq_true rfl) dX11_spellsNumber_32 hf (fun o ho => c_X11_spells l X hinj hZ N S (48 + v30) o ho) (fun S32 H locs hf hw => ?_)
      refine lv_iload_n C.1.1 C.1.2.1 dX11_spellsNumber_35 rfl (lv_at hl 2 rfl) ?_
      refine r_bipush (v := 10) C dX11_spellsNumber_36 (by decide) ?_
      refine r_idiv C dX11_spellsNumber_38 hf (fun v38 hf => ?_)
      refine lv_istore_n (lv' := [(2, .int (iz v38)), (0, .ref (X.2.2 0)), (1, .int (iz x1))]) C.1.1 C.1.2.1 dX11_spellsNumber_39 rfl hl (by decide) rfl (fun ls hl => ?_)
      refine lv_goto (tgt := 18) C.1.1 C.1.2.1 dX11_spellsNumber_40 (by decide) ?_
      exact ih x1 v38 S32 H locs ls hf hw (lv_sub hl [1, 2, 0] rfl)
set_option maxRecDepth 100000 in
set_option maxHeartbeats 4000000 in
theorem w_X11_spellsNumber_2 {p : Program} (l : Launch) {e : Env} {s : State} {m : MethodId} {args : Array Value} {below : List Frame} {meth : Method} {c : Code} {X : XT} (hinj : XInj X nM) (hZ : ZOK (Zm X)) (C : CX p s m args meth c cX11_spellsNumber 3 RX11 none X nM (Zm X)) (out : S2) (k18 : Int → Int → S2 → Option (S2)) (hk18 : ∀ (x1 : Int) (x2 : Int) (S : S2) (H : Heap) (locs : List Loc) (ls : Array Slot), k18 x1 x2 S = some out → WH X shM nM s S H locs → lv_has ls 3 [(0, .ref (X.2.2 0)), (1, .int (iz x1)), (2, .int (iz x2))] → W p l e rmX11_spellsNumber s m args below meth c H locs 0 0 (QV X shM nM s args below out) (F0 m 18 ls [])) : ∀ (N : Nat), ∀ (x1 : Int) (x2 : Int) (S : S2) (H : Heap) (locs : List Loc) (ls : Array Slot), f_X11_spellsNumber_2 k18 N x1 x2 S = some out → WH X shM nM s S H locs → lv_has ls 3 [(0, .ref (X.2.2 0)), (1, .int (iz x1)), (2, .int (iz x2))] → W p l e rmX11_spellsNumber s m args below meth c H locs 0 0 (QV X shM nM s args below out) (F0 m 2 ls []) := by
  intro N
  induction N with
  | zero => intro x1 x2 S H locs ls hf hw hl; cases hf
  | succ N ih =>
    intro x1 x2 S H locs ls hf hw hl
    rw [f_X11_spellsNumber_2.eq_2] at hf
    refine lv_iload_n C.1.1 C.1.2.1 dX11_spellsNumber_2 rfl (lv_at hl 1 rfl) ?_
    refine lv_iload_n C.1.1 C.1.2.1 dX11_spellsNumber_3 rfl (lv_at hl 2 rfl) ?_
    refine r_idiv C dX11_spellsNumber_4 hf (fun v4 hf => ?_)
    refine r_bipush (v := 9) C dX11_spellsNumber_5 (by decide) ?_
    refine r_icmp_le C (tgt := 18) dX11_spellsNumber_7 (by decide) hf (fun hf => ?_) (fun hf => ?_)
    · exact hk18 x1 x2 S H locs ls hf hw (lv_sub hl [0, 1, 2] rfl)
    · refine lv_iload_n C.1.1 C.1.2.1 dX11_spellsNumber_10 rfl (lv_at hl 2 rfl) ?_
      refine r_bipush (v := 10) C dX11_spellsNumber_11 (by decide) ?_
      refine r_imul C dX11_spellsNumber_13 ?_
      refine lv_istore_n (lv' := [(2, .int (iz (x2 * 10))), (0, .ref (X.2.2 0)), (1, .int (iz x1))]) C.1.1 C.1.2.1 dX11_spellsNumber_14 rfl hl (by decide) rfl (fun ls hl => ?_)
      refine lv_goto (tgt := 2) C.1.1 C.1.2.1 dX11_spellsNumber_15 (by decide) ?_
      exact ih x1 (x2 * 10) S H locs ls hf hw (lv_sub hl [1, 2, 0] rfl)
set_option maxRecDepth 100000 in
set_option maxHeartbeats 4000000 in
theorem c_X11_spellsNumber (l : Launch) (X : XT) (hinj : XInj X nM) (hZ : ZOK (Zm X)) (N : Nat) (S : S2) (a1 : Int) (out : S2) (hf : f_X11_spellsNumber N S a1 = some out) : MV l X shM nM (Zm X) yX11_spellsNumber cX11_spellsNumber 3 none rmX11_spellsNumber [.ref (X.2.2 0), .int (iz a1)] S out := by
  refine met_V (own := RX11) (by decide) rfl hinj hZ (Nat.le_of_ble_eq_true rfl) (fun p e s m args below meth c C ls H locs hw hl => ?_)
  unfold f_X11_spellsNumber at hf
  have hl : lv_has ls 3 [(0, .ref (X.2.2 0)), (1, .int (iz a1))] := hl
  refine r_iconst (v := 1) C dX11_spellsNumber_0 ?_
  refine lv_istore_n (lv' := [(2, .int (iz 1)), (0, .ref (X.2.2 0)), (1, .int (iz a1))]) C.1.1 C.1.2.1 dX11_spellsNumber_1 rfl hl (by decide) rfl (fun ls hl => ?_)
  exact (w_X11_spellsNumber_2 l hinj hZ C out (f_X11_spellsNumber_18 N) (w_X11_spellsNumber_18 l hinj hZ C out N) N) a1 1 S H locs ls hf hw (lv_sub hl [1, 2, 0] rfl)
def f_X11_spellsName_53 (k21 : Int → Int → S2 → Option (S2)) (N : Nat) (x1 : Int) (x2 : Int) (x3 : Int64) (S : S2) : Option (S2) := nzL (27 : Int64) <| bV (f_X11_spells N S (97 + (bz (((x3 - (1 : Int64)) - (x3 - (1 : Int64)) / (27 : Int64) * (27 : Int64)) : Int64).toInt32))) fun S65 => k21 x1 (x2 + (-1)) S65
def f_X11_spellsName_35 (k53 : Int → Int → Int64 → S2 → Option (S2)) : Nat → Int → Int → Int64 → Int → S2 → Option (S2)
  | 0, _, _, _, _, _ => none
  | N + 1, x1, x2, x3, x5, S => cI x5 x2 (if x2 ≤ x5 then k53 x1 x2 x3 S else nzL (27 : Int64) <| (f_X11_spellsName_35 k53 N) x1 x2 (x3 / (27 : Int64)) (x5 + 1) S)
def f_X11_spellsName_21 : Nat → Int → Int → S2 → Option (S2)
  | 0, _, _, _ => none
  | N + 1, x1, x2, S => cI x2 0 (if x2 < 0 then rV S else aL S 12 8 x1 fun v30 => (f_X11_spellsName_35 (f_X11_spellsName_53 (f_X11_spellsName_21 N) N) N) x1 x2 v30 0 S)
def f_X11_spellsName (N : Nat) (S : S2) (a1 : Int) : Option (S2) := cI a1 (-1) (if a1 = (-1) then bV (f_X11_spells N S 63) fun S8 => rV S8 else aI S 11 8 a1 fun v17 => (f_X11_spellsName_21 N) a1 (v17 - 1) S)
abbrev rmX11_spellsName : Room := { frames := 1, cells := 0, slots := 0, locals := 21 }
theorem hd_X11_spellsName : yX11_spellsName.cls ≠ "java/lang/invoke/MethodHandle" ∧ yX11_spellsName.cls ≠ "java/lang/invoke/VarHandle" ∧ (parseMethodDescriptor yX11_spellsName.desc).map (fun d => d.parameters.length) = some 1 := by decide +kernel
set_option maxRecDepth 100000 in
set_option maxHeartbeats 4000000 in
theorem w_X11_spellsName_53 {p : Program} (l : Launch) {e : Env} {s : State} {m : MethodId} {args : Array Value} {below : List Frame} {meth : Method} {c : Code} {X : XT} (hinj : XInj X nM) (hZ : ZOK (Zm X)) (C : CX p s m args meth c cX11_spellsName 6 RX11 none X nM (Zm X)) (out : S2) (k21 : Int → Int → S2 → Option (S2)) (hk21 : ∀ (x1 : Int) (x2 : Int) (S : S2) (H : Heap) (locs : List Loc) (ls : Array Slot), k21 x1 x2 S = some out → WH X shM nM s S H locs → lv_has ls 6 [(0, .ref (X.2.2 0)), (1, .int (iz x1)), (2, .int (iz x2))] → W p l e rmX11_spellsName s m args below meth c H locs 0 0 (QV X shM nM s args below out) (F0 m 21 ls [])) : ∀ (N : Nat), ∀ (x1 : Int) (x2 : Int) (x3 : Int64) (S : S2) (H : Heap) (locs : List Loc) (ls : Array Slot), f_X11_spellsName_53 k21 N x1 x2 x3 S = some out → WH X shM nM s S H locs → lv_has ls 6 [(0, .ref (X.2.2 0)), (1, .int (iz x1)), (2, .int (iz x2)), (3, .long x3)] → W p l e rmX11_spellsName s m args below meth c H locs 0 0 (QV X shM nM s args below out) (F0 m 53 ls []) := by
  intro N x1 x2 x3 S H locs ls hf hw hl
  unfold f_X11_spellsName_53 at hf
  refine lv_aload_n C.1.1 C.1.2.1 dX11_spellsName_53 rfl (lv_at hl 0 rfl) ?_
  refine r_bipush (v := 97) C dX11_spellsName_54 (by decide) ?_
  refine lv_lload_n C.1.1 C.1.2.1 dX11_spellsName_56 rfl (lv_at hl 3 rfl) ?_
  refine lv_lconst (v := 1) C.1.1 C.1.2.1 dX11_spellsName_57 (by decide) ?_
  refine lv_lsub C.1.1 C.1.2.1 dX11_spellsName_58 ?_
  refine lv_ldc2 (v := 27) C.1.1 C.1.2.1 C.1.2.2.2.1 (C.1.2.2.2.2 _ tw6_107) dX11_spellsName_59 ?_
  obtain ⟨hne, hf⟩ := nzL_some hf
  refine lv_lrem C.1.1 C.1.2.1 dX11_spellsName_62 hne ?_
  refine r_l2i C dX11_spellsName_63 ?_
  refine r_iadd C dX11_spellsName_64 ?_
  refine r_callV (As := [.int (iz (97 + (bz (((x3 - (1 : Int64)) - (x3 - (1 : Int64)) / (27 : Int64) * (27 : Int64)) : Int64).toInt32)))]) (rest := []) (rm := rmX11_spells) C hw shM_0 ltM_0 cO11 tw8_63 tw8_65 tp_112 tw1_12 tw8_66 hd_X11_spells rfl ⟨⟨rfl, rfl⟩, Nat.le_of_ble_eq_true rfl, Nat.le_of_ble_eq_true rfl⟩ hl.1 rfl (Nat.le_of_ble_eq_true rfl) dX11_spellsName_65 hf (fun o ho => c_X11_spells l X hinj hZ N S (97 + (bz (((x3 - (1 : Int64)) - (x3 - (1 : Int64)) / (27 : Int64) * (27 : Int64)) : Int64).toInt32)) o ho) (fun S65 H locs hf hw => ?_)
  refine lv_iinc (v := iz (x2 + (-1))) (lv' := [(2, .int (iz (x2 + (-1)))), (0, .ref (X.2.2 0)), (1, .int (iz x1)), (3, .long x3)]) C.1.1 C.1.2.1 dX11_spellsName_68 hl (k := 2) rfl (iz_add _ _) (by decide) rfl (fun ls hl => ?_)
  refine lv_goto (tgt := 21) C.1.1 C.1.2.1 dX11_spellsName_71 (by decide) ?_
  exact hk21 x1 (x2 + (-1)) S65 H locs ls hf hw (lv_sub hl [1, 2, 0] rfl)
set_option maxRecDepth 100000 in
set_option maxHeartbeats 4000000 in
theorem w_X11_spellsName_35 {p : Program} (l : Launch) {e : Env} {s : State} {m : MethodId} {args : Array Value} {below : List Frame} {meth : Method} {c : Code} {X : XT} (hinj : XInj X nM) (hZ : ZOK (Zm X)) (C : CX p s m args meth c cX11_spellsName 6 RX11 none X nM (Zm X)) (out : S2) (k53 : Int → Int → Int64 → S2 → Option (S2)) (hk53 : ∀ (x1 : Int) (x2 : Int) (x3 : Int64) (S : S2) (H : Heap) (locs : List Loc) (ls : Array Slot), k53 x1 x2 x3 S = some out → WH X shM nM s S H locs → lv_has ls 6 [(0, .ref (X.2.2 0)), (1, .int (iz x1)), (2, .int (iz x2)), (3, .long x3)] → W p l e rmX11_spellsName s m args below meth c H locs 0 0 (QV X shM nM s args below out) (F0 m 53 ls [])) : ∀ (N : Nat), ∀ (x1 : Int) (x2 : Int) (x3 : Int64) (x5 : Int) (S : S2) (H : Heap) (locs : List Loc) (ls : Array Slot), f_X11_spellsName_35 k53 N x1 x2 x3 x5 S = some out → WH X shM nM s S H locs → lv_has ls 6 [(0, .ref (X.2.2 0)), (1, .int (iz x1)), (2, .int (iz x2)), (3, .long x3), (5, .int (iz x5))] → W p l e rmX11_spellsName s m args below meth c H locs 0 0 (QV X shM nM s args below out) (F0 m 35 ls []) := by
  intro N
  induction N with
  | zero => intro x1 x2 x3 x5 S H locs ls hf hw hl; cases hf
  | succ N ih =>
    intro x1 x2 x3 x5 S H locs ls hf hw hl
    rw [f_X11_spellsName_35.eq_2] at hf
    refine lv_iload C.1.1 C.1.2.1 dX11_spellsName_35 (lv_at hl 4 rfl) ?_
    refine lv_iload_n C.1.1 C.1.2.1 dX11_spellsName_37 rfl (lv_at hl 2 rfl) ?_
    refine r_icmp_ge C (tgt := 53) dX11_spellsName_38 (by decide) hf (fun hf => ?_) (fun hf => ?_)
    · exact hk53 x1 x2 x3 S H locs ls hf hw (lv_sub hl [0, 1, 2, 3] rfl)
    · refine lv_lload_n C.1.1 C.1.2.1 dX11_spellsName_41 rfl (lv_at hl 3 rfl) ?_
      refine lv_ldc2 (v := 27) C.1.1 C.1.2.1 C.1.2.2.2.1 (C.1.2.2.2.2 _ tw6_107) dX11_spellsName_42 ?_
      obtain ⟨hne, hf⟩ := nzL_some hf
      refine lv_ldiv C.1.1 C.1.2.1 dX11_spellsName_45 hne ?_
      refine lv_lstore_n (lv' := [(3, .long (x3 / (27 : Int64))), (0, .ref (X.2.2 0)), (1, .int (iz x1)), (2, .int (iz x2)), (5, .int (iz x5))]) C.1.1 C.1.2.1 dX11_spellsName_46 rfl hl (by decide) rfl (fun ls hl => ?_)
      refine lv_iinc (v := iz (x5 + 1)) (lv' := [(5, .int (iz (x5 + 1))), (3, .long (x3 / (27 : Int64))), (0, .ref (X.2.2 0)), (1, .int (iz x1)), (2, .int (iz x2))]) C.1.1 C.1.2.1 dX11_spellsName_47 hl (k := 4) rfl (iz_add _ _) (by decide) rfl (fun ls hl => ?_)
      refine lv_goto (tgt := 35) C.1.1 C.1.2.1 dX11_spellsName_50 (by decide) ?_
      exact ih x1 x2 (x3 / (27 : Int64)) (x5 + 1) S H locs ls hf hw (lv_sub hl [2, 3, 4, 1, 0] rfl)
set_option maxRecDepth 100000 in
set_option maxHeartbeats 4000000 in
theorem w_X11_spellsName_21 {p : Program} (l : Launch) {e : Env} {s : State} {m : MethodId} {args : Array Value} {below : List Frame} {meth : Method} {c : Code} {X : XT} (hinj : XInj X nM) (hZ : ZOK (Zm X)) (C : CX p s m args meth c cX11_spellsName 6 RX11 none X nM (Zm X)) (out : S2) : ∀ (N : Nat), ∀ (x1 : Int) (x2 : Int) (S : S2) (H : Heap) (locs : List Loc) (ls : Array Slot), f_X11_spellsName_21 N x1 x2 S = some out → WH X shM nM s S H locs → lv_has ls 6 [(0, .ref (X.2.2 0)), (1, .int (iz x1)), (2, .int (iz x2))] → W p l e rmX11_spellsName s m args below meth c H locs 0 0 (QV X shM nM s args below out) (F0 m 21 ls []) := by
  intro N
  induction N with
  | zero => intro x1 x2 S H locs ls hf hw hl; cases hf
  | succ N ih =>
    intro x1 x2 S H locs ls hf hw hl
    rw [f_X11_spellsName_21.eq_2] at hf
    refine lv_iload_n C.1.1 C.1.2.1 dX11_spellsName_21 rfl (lv_at hl 2 rfl) ?_
    refine r_if_lt C (tgt := 74) dX11_spellsName_22 (by decide) hf (fun hf => ?_) (fun hf => ?_)
    · exact r_retV C hw dX11_spellsName_74 hf
    · refine lv_aload_n C.1.1 C.1.2.1 dX11_spellsName_25 rfl (lv_at hl 0 rfl) ?_
      refine r_getR (k := 26) C hw shM_0 ltM_0 cO11 rfl (by decide) tw5_170 rfl dX11_spellsName_26 ?_
      refine lv_iload_n C.1.1 C.1.2.1 dX11_spellsName_29 rfl (lv_at hl 1 rfl) ?_
      refine r_lald C hw shM_12 ltM_12 (Nat.le_of_ble_eq_true rfl) dX11_spellsName_30 hf (fun v30 hf => ?_)
      refine lv_lstore_n (lv' := [(3, .long v30), (0, .ref (X.2.2 0)), (1, .int (iz x1)), (2, .int (iz x2))]) C.1.1 C.1.2.1 dX11_spellsName_31 rfl hl (by decide) rfl (fun ls hl => ?_)
      refine r_iconst (v := 0) C dX11_spellsName_32 ?_
      refine lv_istore (lv' := [(5, .int (iz 0)), (3, .long v30), (0, .ref (X.2.2 0)), (1, .int (iz x1)), (2, .int (iz x2))]) C.1.1 C.1.2.1 dX11_spellsName_33 hl (by decide) rfl (fun ls hl => ?_)
      exact (w_X11_spellsName_35 l hinj hZ C out (f_X11_spellsName_53 (f_X11_spellsName_21 N) N) (w_X11_spellsName_53 l hinj hZ C out (f_X11_spellsName_21 N) ih N) N) x1 x2 v30 0 S H locs ls hf hw (lv_sub hl [2, 3, 4, 1, 0] rfl)
set_option maxRecDepth 100000 in
set_option maxHeartbeats 4000000 in
theorem c_X11_spellsName (l : Launch) (X : XT) (hinj : XInj X nM) (hZ : ZOK (Zm X)) (N : Nat) (S : S2) (a1 : Int) (out : S2) (hf : f_X11_spellsName N S a1 = some out) : MV l X shM nM (Zm X) yX11_spellsName cX11_spellsName 6 none rmX11_spellsName [.ref (X.2.2 0), .int (iz a1)] S out := by
  refine met_V (own := RX11) (by decide) rfl hinj hZ (Nat.le_of_ble_eq_true rfl) (fun p e s m args below meth c C ls H locs hw hl => ?_)
  unfold f_X11_spellsName at hf
  have hl : lv_has ls 6 [(0, .ref (X.2.2 0)), (1, .int (iz a1))] := hl
  refine lv_iload_n C.1.1 C.1.2.1 dX11_spellsName_0 rfl (lv_at hl 1 rfl) ?_
  refine r_iconst (v := (-1)) C dX11_spellsName_1 ?_
  refine r_icmp_ne C (tgt := 12) dX11_spellsName_2 (by decide) hf (fun hf => ?_) (fun hf => ?_)
  · refine lv_aload_n C.1.1 C.1.2.1 dX11_spellsName_12 rfl (lv_at hl 0 rfl) ?_
    refine r_getR (k := 25) C hw shM_0 ltM_0 cO11 rfl (by decide) tw5_169 rfl dX11_spellsName_13 ?_
    refine lv_iload_n C.1.1 C.1.2.1 dX11_spellsName_16 rfl (lv_at hl 1 rfl) ?_
    refine r_iald C hw shM_11 ltM_11 (Nat.le_of_ble_eq_true rfl) dX11_spellsName_17 hf (fun v17 hf => ?_)
    refine r_iconst (v := 1) C dX11_spellsName_18 ?_
    refine r_isub C dX11_spellsName_19 ?_
    refine lv_istore_n (lv' := [(2, .int (iz (v17 - 1))), (0, .ref (X.2.2 0)), (1, .int (iz a1))]) C.1.1 C.1.2.1 dX11_spellsName_20 rfl hl (by decide) rfl (fun ls hl => ?_)
    exact (w_X11_spellsName_21 l hinj hZ C out N) a1 (v17 - 1) S H locs ls hf hw (lv_sub hl [1, 2, 0] rfl)
  · refine lv_aload_n C.1.1 C.1.2.1 dX11_spellsName_5 rfl (lv_at hl 0 rfl) ?_
    refine r_bipush (v := 63) C dX11_spellsName_6 (by decide) ?_
    refine r_callV (As := [.int (iz 63)]) (rest := []) (rm := rmX11_spells) C hw shM_0 ltM_0 cO11 tw8_63 tw8_65 tp_112 tw1_12 tw8_66 hd_X11_spells rfl ⟨⟨rfl, rfl⟩, Nat.le_of_ble_eq_true rfl, Nat.le_of_ble_eq_true rfl⟩ hl.1 rfl (Nat.le_of_ble_eq_true rfl) dX11_spellsName_8 hf (fun o ho => c_X11_spells l X hinj hZ N S 63 o ho) (fun S8 H locs hf hw => ?_)
    exact r_retV C hw dX11_spellsName_11 hf
def f_X11_isScript (N : Nat) (S : S2) (a1 : Int) : Option (Int × S2) := gI S 0 21 fun v3 => bI (f_X11_in N S a1 0 (v3 - 1)) fun v8 S8 => rZ v8 S8
abbrev rmX11_isScript : Room := { frames := 1, cells := 0, slots := 0, locals := 22 }
theorem hd_X11_isScript : yX11_isScript.cls ≠ "java/lang/invoke/MethodHandle" ∧ yX11_isScript.cls ≠ "java/lang/invoke/VarHandle" ∧ (parseMethodDescriptor yX11_isScript.desc).map (fun d => d.parameters.length) = some 1 := by decide +kernel
set_option maxRecDepth 100000 in
set_option maxHeartbeats 4000000 in
theorem c_X11_isScript (l : Launch) (X : XT) (hinj : XInj X nM) (hZ : ZOK (Zm X)) (N : Nat) (S : S2) (a1 : Int) (out : Int × S2) (hf : f_X11_isScript N S a1 = some out) : MI l X shM nM (Zm X) yX11_isScript cX11_isScript 2 (some .boolean) rmX11_isScript [.ref (X.2.2 0), .int (iz a1)] S out := by
  refine met_I (own := RX11) (by decide) rfl hinj hZ (Nat.le_of_ble_eq_true rfl) (fun p e s m args below meth c C ls H locs hw hl => ?_)
  unfold f_X11_isScript at hf
  have hl : lv_has ls 2 [(0, .ref (X.2.2 0)), (1, .int (iz a1))] := hl
  refine lv_iload_n C.1.1 C.1.2.1 dX11_isScript_0 rfl (lv_at hl 1 rfl) ?_
  refine r_iconst (v := 0) C dX11_isScript_1 ?_
  refine lv_aload_n C.1.1 C.1.2.1 dX11_isScript_2 rfl (lv_at hl 0 rfl) ?_
  refine r_getI (k := 21) C hw shM_0 ltM_0 cO11 rfl (by decide) tw5_165 rfl dX11_isScript_3 hf (fun v3 hf => ?_)
  refine r_iconst (v := 1) C dX11_isScript_6 ?_
  refine r_isub C dX11_isScript_7 ?_
  refine r_scallI (As := [.int (iz a1), .int (iz 0), .int (iz (v3 - 1))]) (rest := []) (rm := rmX11_in) C hw tw6_77 tw6_78 tw1_12 tw6_79 hd_X11_in rfl ⟨⟨rfl, rfl⟩, Nat.le_of_ble_eq_true rfl, Nat.le_of_ble_eq_true rfl⟩ hl.1 rfl (Nat.le_of_ble_eq_true rfl) dX11_isScript_8 hf (fun o ho => c_X11_in l X hinj hZ N S a1 0 (v3 - 1) o ho) (fun v8 S8 H locs hf hw => ?_)
  exact r_retZ C hw dX11_isScript_11 hf
def f_X11_step (N : Nat) (S : S2) (a1 : Int) (a2 : Int) (a3 : Int) : Option (Int × S2) := bI (f_X11_isScript N S a1) fun v2 S2 => cI v2 0 (if v2 = 0 then rI (-1000000) S2 else aI S2 7 5 a1 fun v15 => bI (f_X11_in N S2 a2 0 (v15 - 1)) fun v18 S18 => cI v18 0 (if v18 = 0 then rI (-1000000) S18 else bI (f_X11_in N S18 a3 0 2) fun v27 S27 => cI v27 0 (if v27 = 0 then rI (-1000000) S27 else aI S27 6 180 ((3 * ((12 * a1) + a2)) + a3) fun v47 => rI v47 S27)))
abbrev rmX11_step : Room := { frames := 2, cells := 0, slots := 0, locals := 43 }
theorem hd_X11_step : yX11_step.cls ≠ "java/lang/invoke/MethodHandle" ∧ yX11_step.cls ≠ "java/lang/invoke/VarHandle" ∧ (parseMethodDescriptor yX11_step.desc).map (fun d => d.parameters.length) = some 3 := by decide +kernel
set_option maxRecDepth 100000 in
set_option maxHeartbeats 4000000 in
theorem c_X11_step (l : Launch) (X : XT) (hinj : XInj X nM) (hZ : ZOK (Zm X)) (N : Nat) (S : S2) (a1 : Int) (a2 : Int) (a3 : Int) (out : Int × S2) (hf : f_X11_step N S a1 a2 a3 = some out) : MI l X shM nM (Zm X) yX11_step cX11_step 4 (some .int) rmX11_step [.ref (X.2.2 0), .int (iz a1), .int (iz a2), .int (iz a3)] S out := by
  refine met_I (own := RX11) (by decide) rfl hinj hZ (Nat.le_of_ble_eq_true rfl) (fun p e s m args below meth c C ls H locs hw hl => ?_)
  unfold f_X11_step at hf
  have hl : lv_has ls 4 [(0, .ref (X.2.2 0)), (1, .int (iz a1)), (2, .int (iz a2)), (3, .int (iz a3))] := hl
  refine lv_aload_n C.1.1 C.1.2.1 dX11_step_0 rfl (lv_at hl 0 rfl) ?_
  refine lv_iload_n C.1.1 C.1.2.1 dX11_step_1 rfl (lv_at hl 1 rfl) ?_
  refine r_callI (As := [.int (iz a1)]) (rest := []) (rm := rmX11_isScript) C hw shM_0 ltM_0 cO11 tw8_75 tw8_77 tp_114 tw1_12 tw8_78 hd_X11_isScript rfl ⟨⟨rfl, rfl⟩, Nat.le_of_ble_eq_true rfl, Nat.le_of_ble_eq_true rfl⟩ hl.1 rfl (Nat.le_of_ble_eq_true rfl) dX11_step_2 hf (fun o ho => c_X11_isScript l X hinj hZ N S a1 o ho) (fun v2 S2 H locs hf hw => ?_)
  refine r_if_eq C (tgt := 51) dX11_step_5 (by decide) hf (fun hf => ?_) (fun hf => ?_)
  · refine r_ldc (v := (-1000000)) C tw6_180 (by decide) dX11_step_51 ?_
    exact r_retI C hw dX11_step_53 hf
  · refine lv_iload_n C.1.1 C.1.2.1 dX11_step_8 rfl (lv_at hl 2 rfl) ?_
    refine r_iconst (v := 0) C dX11_step_9 ?_
    refine lv_aload_n C.1.1 C.1.2.1 dX11_step_10 rfl (lv_at hl 0 rfl) ?_
    refine r_getR (k := 20) C hw shM_0 ltM_0 cO11 rfl (by decide) tw5_164 rfl dX11_step_11 ?_
    refine lv_iload_n C.1.1 C.1.2.1 dX11_step_14 rfl (lv_at hl 1 rfl) ?_
    refine r_iald C hw shM_7 ltM_7 (Nat.le_of_ble_eq_true rfl) dX11_step_15 hf (fun v15 hf => ?_)
    refine r_iconst (v := 1) C dX11_step_16 ?_
    refine r_isub C dX11_step_17 ?_
    refine r_scallI (As := [.int (iz a2), .int (iz 0), .int (iz (v15 - 1))]) (rest := []) (rm := rmX11_in) C hw tw6_77 tw6_78 tw1_12 tw6_79 hd_X11_in rfl ⟨⟨rfl, rfl⟩, Nat.le_of_ble_eq_true rfl, Nat.le_of_ble_eq_true rfl⟩ hl.1 rfl (Nat.le_of_ble_eq_true rfl) dX11_step_18 hf (fun o ho => c_X11_in l X hinj hZ N S2 a2 0 (v15 - 1) o ho) (fun v18 S18 H locs hf hw => ?_)
    refine r_if_eq C (tgt := 51) dX11_step_21 (by decide) hf (fun hf => ?_) (fun hf => ?_)
    · refine r_ldc (v := (-1000000)) C tw6_180 (by decide) dX11_step_51 ?_
      exact r_retI C hw dX11_step_53 hf
    · refine lv_iload_n C.1.1 C.1.2.1 dX11_step_24 rfl (lv_at hl 3 rfl) ?_
      refine r_iconst (v := 0) C dX11_step_25 ?_
      refine r_iconst (v := 2) C dX11_step_26 ?_
      refine r_scallI (As := [.int (iz a3), .int (iz 0), .int (iz 2)]) (rest := []) (rm := rmX11_in) C hw tw6_77 tw6_78 tw1_12 tw6_79 hd_X11_in rfl ⟨⟨rfl, rfl⟩, Nat.le_of_ble_eq_true rfl, Nat.le_of_ble_eq_true rfl⟩ hl.1 rfl (Nat.le_of_ble_eq_true rfl) dX11_step_27 hf (fun o ho => c_X11_in l X hinj hZ N S18 a3 0 2 o ho) (fun v27 S27 H locs hf hw => ?_)
      refine r_if_eq C (tgt := 51) dX11_step_30 (by decide) hf (fun hf => ?_) (fun hf => ?_)
      · refine r_ldc (v := (-1000000)) C tw6_180 (by decide) dX11_step_51 ?_
        exact r_retI C hw dX11_step_53 hf
      · refine lv_aload_n C.1.1 C.1.2.1 dX11_step_33 rfl (lv_at hl 0 rfl) ?_
        refine r_getR (k := 19) C hw shM_0 ltM_0 cO11 rfl (by decide) tw5_163 rfl dX11_step_34 ?_
        refine r_iconst (v := 3) C dX11_step_37 ?_
        refine r_bipush (v := 12) C dX11_step_38 (by decide) ?_
        refine lv_iload_n C.1.1 C.1.2.1 dX11_step_40 rfl (lv_at hl 1 rfl) ?_
        refine r_imul C dX11_step_41 ?_
        refine lv_iload_n C.1.1 C.1.2.1 dX11_step_42 rfl (lv_at hl 2 rfl) ?_
        refine r_iadd C dX11_step_43 ?_
        refine r_imul C dX11_step_44 ?_
        refine lv_iload_n C.1.1 C.1.2.1 dX11_step_45 rfl (lv_at hl 3 rfl) ?_
        refine r_iadd C dX11_step_46 ?_
        refine r_iald C hw shM_6 ltM_6 (Nat.le_of_ble_eq_true rfl) dX11_step_47 hf (fun v47 hf => ?_)
        refine lv_goto (tgt := 53) C.1.1 C.1.2.1 dX11_step_48 (by decide) ?_
        exact r_retI C hw dX11_step_53 hf
def f_X11_ofPeak (N : Nat) (S : S2) (a1 : Int) (a2 : Int) : Option (Int × S2) := cI a2 0 (if a2 = 0 then bI (f_X11_isKept N S a1) fun v30 S30 => cI v30 0 (if v30 = 0 then rI 0 S30 else bI (f_X11_placeOf N S30 a1) fun v38 S38 => rI v38 S38) else (if a2 = 1 then bI (f_X11_life N S a1) fun v48 S48 => rI v48 S48 else (if a2 = 2 then bI (f_X11_isKept N S a1) fun v54 S54 => cI v54 0 (if v54 = 0 then rI 0 S54 else bI (f_X11_life N S54 a1) fun v62 S62 => rI v62 S62) else bI (f_X11_isKept N S a1) fun v72 S72 => cI v72 0 (if v72 = 0 then rI 0 S72 else bI (f_X11_areaOf N S72 a1) fun v80 S80 => rI v80 S80))))
abbrev rmX11_ofPeak : Room := { frames := 4, cells := 0, slots := 0, locals := 91 }
theorem hd_X11_ofPeak : yX11_ofPeak.cls ≠ "java/lang/invoke/MethodHandle" ∧ yX11_ofPeak.cls ≠ "java/lang/invoke/VarHandle" ∧ (parseMethodDescriptor yX11_ofPeak.desc).map (fun d => d.parameters.length) = some 2 := by decide +kernel
set_option maxRecDepth 100000 in
set_option maxHeartbeats 4000000 in
theorem c_X11_ofPeak (l : Launch) (X : XT) (hinj : XInj X nM) (hZ : ZOK (Zm X)) (N : Nat) (S : S2) (a1 : Int) (a2 : Int) (out : Int × S2) (hf : f_X11_ofPeak N S a1 a2 = some out) : MI l X shM nM (Zm X) yX11_ofPeak cX11_ofPeak 3 (some .int) rmX11_ofPeak [.ref (X.2.2 0), .int (iz a1), .int (iz a2)] S out := by
  refine met_I (own := RX11) (by decide) rfl hinj hZ (Nat.le_of_ble_eq_true rfl) (fun p e s m args below meth c C ls H locs hw hl => ?_)
  unfold f_X11_ofPeak at hf
  have hl : lv_has ls 3 [(0, .ref (X.2.2 0)), (1, .int (iz a1)), (2, .int (iz a2))] := hl
  refine lv_iload_n C.1.1 C.1.2.1 dX11_ofPeak_0 rfl (lv_at hl 2 rfl) ?_
  obtain ⟨⟨hsw, -⟩, hf⟩ := cI_some hf
  rcases ite_some hf with ⟨hc1_0, hf⟩ | ⟨hc1_0, hf⟩
  · refine lv_tableIn (tgt := 28) C.1.1 C.1.2.1 dX11_ofPeak_1 (by rw [hc1_0]; decide) (by rw [hc1_0]; decide) (by rw [hc1_0]; rfl) (by decide) ?_
    refine lv_aload_n C.1.1 C.1.2.1 dX11_ofPeak_28 rfl (lv_at hl 0 rfl) ?_
    refine lv_iload_n C.1.1 C.1.2.1 dX11_ofPeak_29 rfl (lv_at hl 1 rfl) ?_
    refine r_callI (As := [.int (iz a1)]) (rest := []) (rm := rmX11_isKept) C hw shM_0 ltM_0 cO11 tw7_178 tw7_180 tp_97 tw1_12 tw7_181 hd_X11_isKept rfl ⟨⟨rfl, rfl⟩, Nat.le_of_ble_eq_true rfl, Nat.le_of_ble_eq_true rfl⟩ hl.1 rfl (Nat.le_of_ble_eq_true rfl) dX11_ofPeak_30 hf (fun o ho => c_X11_isKept l X hinj hZ N S a1 o ho) (fun v30 S30 H locs hf hw => ?_)
    refine r_if_eq C (tgt := 44) dX11_ofPeak_33 (by decide) hf (fun hf => ?_) (fun hf => ?_)
    · refine r_iconst (v := 0) C dX11_ofPeak_44 ?_
      exact r_retI C hw dX11_ofPeak_45 hf
    · refine lv_aload_n C.1.1 C.1.2.1 dX11_ofPeak_36 rfl (lv_at hl 0 rfl) ?_
      refine lv_iload_n C.1.1 C.1.2.1 dX11_ofPeak_37 rfl (lv_at hl 1 rfl) ?_
      refine r_callI (As := [.int (iz a1)]) (rest := []) (rm := rmX11_placeOf) C hw shM_0 ltM_0 cO11 tw7_41 tw7_43 tp_80 tw1_12 tw7_44 hd_X11_placeOf rfl ⟨⟨rfl, rfl⟩, Nat.le_of_ble_eq_true rfl, Nat.le_of_ble_eq_true rfl⟩ hl.1 rfl (Nat.le_of_ble_eq_true rfl) dX11_ofPeak_38 hf (fun o ho => c_X11_placeOf l X hinj hZ N S30 a1 o ho) (fun v38 S38 H locs hf hw => ?_)
      refine lv_goto (tgt := 45) C.1.1 C.1.2.1 dX11_ofPeak_41 (by decide) ?_
      exact r_retI C hw dX11_ofPeak_45 hf
  · skip
    rcases ite_some hf with ⟨hc1_1, hf⟩ | ⟨hc1_1, hf⟩
    · refine lv_tableIn (tgt := 46) C.1.1 C.1.2.1 dX11_ofPeak_1 (by rw [hc1_1]; decide) (by rw [hc1_1]; decide) (by rw [hc1_1]; rfl) (by decide) ?_
      refine lv_aload_n C.1.1 C.1.2.1 dX11_ofPeak_46 rfl (lv_at hl 0 rfl) ?_
      refine lv_iload_n C.1.1 C.1.2.1 dX11_ofPeak_47 rfl (lv_at hl 1 rfl) ?_
      refine r_callI (As := [.int (iz a1)]) (rest := []) (rm := rmX11_life) C hw shM_0 ltM_0 cO11 tw7_174 tw7_176 tp_96 tw1_12 tw7_177 hd_X11_life rfl ⟨⟨rfl, rfl⟩, Nat.le_of_ble_eq_true rfl, Nat.le_of_ble_eq_true rfl⟩ hl.1 rfl (Nat.le_of_ble_eq_true rfl) dX11_ofPeak_48 hf (fun o ho => c_X11_life l X hinj hZ N S a1 o ho) (fun v48 S48 H locs hf hw => ?_)
      exact r_retI C hw dX11_ofPeak_51 hf
    · skip
      rcases ite_some hf with ⟨hc1_2, hf⟩ | ⟨hc1_2, hf⟩
      · refine lv_tableIn (tgt := 52) C.1.1 C.1.2.1 dX11_ofPeak_1 (by rw [hc1_2]; decide) (by rw [hc1_2]; decide) (by rw [hc1_2]; rfl) (by decide) ?_
        refine lv_aload_n C.1.1 C.1.2.1 dX11_ofPeak_52 rfl (lv_at hl 0 rfl) ?_
        refine lv_iload_n C.1.1 C.1.2.1 dX11_ofPeak_53 rfl (lv_at hl 1 rfl) ?_
        refine r_callI (As := [.int (iz a1)]) (rest := []) (rm := rmX11_isKept) C hw shM_0 ltM_0 cO11 tw7_178 tw7_180 tp_97 tw1_12 tw7_181 hd_X11_isKept rfl ⟨⟨rfl, rfl⟩, Nat.le_of_ble_eq_true rfl, Nat.le_of_ble_eq_true rfl⟩ hl.1 rfl (Nat.le_of_ble_eq_true rfl) dX11_ofPeak_54 hf (fun o ho => c_X11_isKept l X hinj hZ N S a1 o ho) (fun v54 S54 H locs hf hw => ?_)
        refine r_if_eq C (tgt := 68) dX11_ofPeak_57 (by decide) hf (fun hf => ?_) (fun hf => ?_)
        · refine r_iconst (v := 0) C dX11_ofPeak_68 ?_
          exact r_retI C hw dX11_ofPeak_69 hf
        · refine lv_aload_n C.1.1 C.1.2.1 dX11_ofPeak_60 rfl (lv_at hl 0 rfl) ?_
          refine lv_iload_n C.1.1 C.1.2.1 dX11_ofPeak_61 rfl (lv_at hl 1 rfl) ?_
          refine r_callI (As := [.int (iz a1)]) (rest := []) (rm := rmX11_life) C hw shM_0 ltM_0 cO11 tw7_174 tw7_176 tp_96 tw1_12 tw7_177 hd_X11_life rfl ⟨⟨rfl, rfl⟩, Nat.le_of_ble_eq_true rfl, Nat.le_of_ble_eq_true rfl⟩ hl.1 rfl (Nat.le_of_ble_eq_true rfl) dX11_ofPeak_62 hf (fun o ho => c_X11_life l X hinj hZ N S54 a1 o ho) (fun v62 S62 H locs hf hw => ?_)
          refine lv_goto (tgt := 69) C.1.1 C.1.2.1 dX11_ofPeak_65 (by decide) ?_
          exact r_retI C hw dX11_ofPeak_69 hf
      · skip
        refine lv_tableOut (tgt := 70) C.1.1 C.1.2.1 dX11_ofPeak_1 (by rw [sw_in hsw]; omega) (by decide) ?_
        refine lv_aload_n C.1.1 C.1.2.1 dX11_ofPeak_70 rfl (lv_at hl 0 rfl) ?_
        refine lv_iload_n C.1.1 C.1.2.1 dX11_ofPeak_71 rfl (lv_at hl 1 rfl) ?_
        refine r_callI (As := [.int (iz a1)]) (rest := []) (rm := rmX11_isKept) C hw shM_0 ltM_0 cO11 tw7_178 tw7_180 tp_97 tw1_12 tw7_181 hd_X11_isKept rfl ⟨⟨rfl, rfl⟩, Nat.le_of_ble_eq_true rfl, Nat.le_of_ble_eq_true rfl⟩ hl.1 rfl (Nat.le_of_ble_eq_true rfl) dX11_ofPeak_72 hf (fun o ho => c_X11_isKept l X hinj hZ N S a1 o ho) (fun v72 S72 H locs hf hw => ?_)
        refine r_if_eq C (tgt := 86) dX11_ofPeak_75 (by decide) hf (fun hf => ?_) (fun hf => ?_)
        · refine r_iconst (v := 0) C dX11_ofPeak_86 ?_
          exact r_retI C hw dX11_ofPeak_87 hf
        · refine lv_aload_n C.1.1 C.1.2.1 dX11_ofPeak_78 rfl (lv_at hl 0 rfl) ?_
          refine lv_iload_n C.1.1 C.1.2.1 dX11_ofPeak_79 rfl (lv_at hl 1 rfl) ?_
          refine r_callI (As := [.int (iz a1)]) (rest := []) (rm := rmX11_areaOf) C hw shM_0 ltM_0 cO11 tw7_206 tw7_208 tp_103 tw1_12 tw7_209 hd_X11_areaOf rfl ⟨⟨rfl, rfl⟩, Nat.le_of_ble_eq_true rfl, Nat.le_of_ble_eq_true rfl⟩ hl.1 rfl (Nat.le_of_ble_eq_true rfl) dX11_ofPeak_80 hf (fun o ho => c_X11_areaOf l X hinj hZ N S72 a1 o ho) (fun v80 S80 H locs hf hw => ?_)
          refine lv_goto (tgt := 87) C.1.1 C.1.2.1 dX11_ofPeak_83 (by decide) ?_
          exact r_retI C hw dX11_ofPeak_87 hf
def f_X11_added_4 : Nat → Int → Int → Int → S2 → Option (Int × S2)
  | 0, _, _, _, _ => none
  | N + 1, x1, x2, x3, S => gI S 0 35 fun v6 => cI x3 v6 (if v6 ≤ x3 then rI x2 S else bI (f_X11_ofPeak N S x3 x1) fun v16 S16 => (f_X11_added_4 N) x1 (x2 + v16) (x3 + 1) S16)
def f_X11_added (N : Nat) (S : S2) (a1 : Int) : Option (Int × S2) := (f_X11_added_4 N) a1 0 0 S
abbrev rmX11_added : Room := { frames := 5, cells := 0, slots := 0, locals := 113 }
theorem hd_X11_added : yX11_added.cls ≠ "java/lang/invoke/MethodHandle" ∧ yX11_added.cls ≠ "java/lang/invoke/VarHandle" ∧ (parseMethodDescriptor yX11_added.desc).map (fun d => d.parameters.length) = some 1 := by decide +kernel
set_option maxRecDepth 100000 in
set_option maxHeartbeats 4000000 in
theorem w_X11_added_4 {p : Program} (l : Launch) {e : Env} {s : State} {m : MethodId} {args : Array Value} {below : List Frame} {meth : Method} {c : Code} {X : XT} (hinj : XInj X nM) (hZ : ZOK (Zm X)) (C : CX p s m args meth c cX11_added 4 RX11 (some .int) X nM (Zm X)) (out : Int × S2) : ∀ (N : Nat), ∀ (x1 : Int) (x2 : Int) (x3 : Int) (S : S2) (H : Heap) (locs : List Loc) (ls : Array Slot), f_X11_added_4 N x1 x2 x3 S = some out → WH X shM nM s S H locs → lv_has ls 4 [(0, .ref (X.2.2 0)), (1, .int (iz x1)), (2, .int (iz x2)), (3, .int (iz x3))] → W p l e rmX11_added s m args below meth c H locs 0 0 (QI X shM nM s args below out) (F0 m 4 ls []) := by
  intro N
  induction N with
  | zero => intro x1 x2 x3 S H locs ls hf hw hl; cases hf
  | succ N ih =>
    intro x1 x2 x3 S H locs ls hf hw hl
    rw [f_X11_added_4.eq_2] at hf
    refine lv_iload_n C.1.1 C.1.2.1 dX11_added_4 rfl (lv_at hl 3 rfl) ?_
    refine lv_aload_n C.1.1 C.1.2.1 dX11_added_5 rfl (lv_at hl 0 rfl) ?_
    refine r_getI (k := 35) C hw shM_0 ltM_0 cO11 rfl (by decide) tw5_179 rfl dX11_added_6 hf (fun v6 hf => ?_)
    refine r_icmp_ge C (tgt := 27) dX11_added_9 (by decide) hf (fun hf => ?_) (fun hf => ?_)
    · refine lv_iload_n C.1.1 C.1.2.1 dX11_added_27 rfl (lv_at hl 2 rfl) ?_
      exact r_retI C hw dX11_added_28 hf
    · refine lv_iload_n C.1.1 C.1.2.1 dX11_added_12 rfl (lv_at hl 2 rfl) ?_
      refine lv_aload_n C.1.1 C.1.2.1 dX11_added_13 rfl (lv_at hl 0 rfl) ?_
      refine lv_iload_n C.1.1 C.1.2.1 dX11_added_14 rfl (lv_at hl 3 rfl) ?_
      refine lv_iload_n C.1.1 C.1.2.1 dX11_added_15 rfl (lv_at hl 1 rfl) ?_
      refine r_callI (As := [.int (iz x3), .int (iz x1)]) (rest := [.int (iz x2)]) (rm := rmX11_ofPeak) C hw shM_0 ltM_0 cO11 tw8_107 tw8_109 tp_119 tw1_12 tw8_110 hd_X11_ofPeak rfl ⟨⟨rfl, rfl⟩, Nat.le_of_ble_eq_true rfl, Nat.le_of_ble_eq_true rfl⟩ hl.1 rfl (Nat.le_of_ble_eq_true rfl) dX11_added_16 hf (fun o ho => c_X11_ofPeak l X hinj hZ N S x3 x1 o ho) (fun v16 S16 H locs hf hw => ?_)
      refine r_iadd C dX11_added_19 ?_
      refine lv_istore_n (lv' := [(2, .int (iz (x2 + v16))), (0, .ref (X.2.2 0)), (1, .int (iz x1)), (3, .int (iz x3))]) C.1.1 C.1.2.1 dX11_added_20 rfl hl (by decide) rfl (fun ls hl => ?_)
      refine lv_iinc (v := iz (x3 + 1)) (lv' := [(3, .int (iz (x3 + 1))), (2, .int (iz (x2 + v16))), (0, .ref (X.2.2 0)), (1, .int (iz x1))]) C.1.1 C.1.2.1 dX11_added_21 hl (k := 3) rfl (iz_add _ _) (by decide) rfl (fun ls hl => ?_)
      refine lv_goto (tgt := 4) C.1.1 C.1.2.1 dX11_added_24 (by decide) ?_
      exact ih x1 (x2 + v16) (x3 + 1) S16 H locs ls hf hw (lv_sub hl [2, 3, 1, 0] rfl)
set_option maxRecDepth 100000 in
set_option maxHeartbeats 4000000 in
theorem c_X11_added (l : Launch) (X : XT) (hinj : XInj X nM) (hZ : ZOK (Zm X)) (N : Nat) (S : S2) (a1 : Int) (out : Int × S2) (hf : f_X11_added N S a1 = some out) : MI l X shM nM (Zm X) yX11_added cX11_added 4 (some .int) rmX11_added [.ref (X.2.2 0), .int (iz a1)] S out := by
  refine met_I (own := RX11) (by decide) rfl hinj hZ (Nat.le_of_ble_eq_true rfl) (fun p e s m args below meth c C ls H locs hw hl => ?_)
  unfold f_X11_added at hf
  have hl : lv_has ls 4 [(0, .ref (X.2.2 0)), (1, .int (iz a1))] := hl
  refine r_iconst (v := 0) C dX11_added_0 ?_
  refine lv_istore_n (lv' := [(2, .int (iz 0)), (0, .ref (X.2.2 0)), (1, .int (iz a1))]) C.1.1 C.1.2.1 dX11_added_1 rfl hl (by decide) rfl (fun ls hl => ?_)
  refine r_iconst (v := 0) C dX11_added_2 ?_
  refine lv_istore_n (lv' := [(3, .int (iz 0)), (2, .int (iz 0)), (0, .ref (X.2.2 0)), (1, .int (iz a1))]) C.1.1 C.1.2.1 dX11_added_3 rfl hl (by decide) rfl (fun ls hl => ?_)
  exact (w_X11_added_4 l hinj hZ C out N) a1 0 0 S H locs ls hf hw (lv_sub hl [2, 3, 1, 0] rfl)
def f_X11_lastGeneration_4 : Nat → Int → Int → S2 → Option (Int × S2)
  | 0, _, _, _ => none
  | N + 1, x1, x2, S => gI S 0 35 fun v6 => cI x2 v6 (if v6 ≤ x2 then rI x1 S else bI (f_X11_generationOf N S x2) fun v15 S15 => mxI x1 v15 fun v18 => (f_X11_lastGeneration_4 N) v18 (x2 + 1) S15)
def f_X11_lastGeneration (N : Nat) (S : S2) : Option (Int × S2) := (f_X11_lastGeneration_4 N) 0 0 S
abbrev rmX11_lastGeneration : Room := { frames := 1, cells := 0, slots := 0, locals := 23 }
theorem hd_X11_lastGeneration : yX11_lastGeneration.cls ≠ "java/lang/invoke/MethodHandle" ∧ yX11_lastGeneration.cls ≠ "java/lang/invoke/VarHandle" ∧ (parseMethodDescriptor yX11_lastGeneration.desc).map (fun d => d.parameters.length) = some 0 := by decide +kernel
set_option maxRecDepth 100000 in
set_option maxHeartbeats 4000000 in
theorem w_X11_lastGeneration_4 {p : Program} (l : Launch) {e : Env} {s : State} {m : MethodId} {args : Array Value} {below : List Frame} {meth : Method} {c : Code} {X : XT} (hinj : XInj X nM) (hZ : ZOK (Zm X)) (C : CX p s m args meth c cX11_lastGeneration 3 RX11 (some .int) X nM (Zm X)) (out : Int × S2) : ∀ (N : Nat), ∀ (x1 : Int) (x2 : Int) (S : S2) (H : Heap) (locs : List Loc) (ls : Array Slot), f_X11_lastGeneration_4 N x1 x2 S = some out → WH X shM nM s S H locs → lv_has ls 3 [(0, .ref (X.2.2 0)), (1, .int (iz x1)), (2, .int (iz x2))] → W p l e rmX11_lastGeneration s m args below meth c H locs 0 0 (QI X shM nM s args below out) (F0 m 4 ls []) := by
  intro N
  induction N with
  | zero => intro x1 x2 S H locs ls hf hw hl; cases hf
  | succ N ih =>
    intro x1 x2 S H locs ls hf hw hl
    rw [f_X11_lastGeneration_4.eq_2] at hf
    refine lv_iload_n C.1.1 C.1.2.1 dX11_lastGeneration_4 rfl (lv_at hl 2 rfl) ?_
    refine lv_aload_n C.1.1 C.1.2.1 dX11_lastGeneration_5 rfl (lv_at hl 0 rfl) ?_
    refine r_getI (k := 35) C hw shM_0 ltM_0 cO11 rfl (by decide) tw5_179 rfl dX11_lastGeneration_6 hf (fun v6 hf => ?_)
    refine r_icmp_ge C (tgt := 28) dX11_lastGeneration_9 (by decide) hf (fun hf => ?_) (fun hf => ?_)
    · refine lv_iload_n C.1.1 C.1.2.1 dX11_lastGeneration_28 rfl (lv_at hl 1 rfl) ?_
      exact r_retI C hw dX11_lastGeneration_29 hf
    · refine lv_iload_n C.1.1 C.1.2.1 dX11_lastGeneration_12 rfl (lv_at hl 1 rfl) ?_
      refine lv_aload_n C.1.1 C.1.2.1 dX11_lastGeneration_13 rfl (lv_at hl 0 rfl) ?_
      refine lv_iload_n C.1.1 C.1.2.1 dX11_lastGeneration_14 rfl (lv_at hl 2 rfl) ?_
      refine r_callI (As := [.int (iz x2)]) (rest := [.int (iz x1)]) (rm := rmX11_generationOf) C hw shM_0 ltM_0 cO11 tw7_182 tw7_184 tp_98 tw1_12 tw7_185 hd_X11_generationOf rfl ⟨⟨rfl, rfl⟩, Nat.le_of_ble_eq_true rfl, Nat.le_of_ble_eq_true rfl⟩ hl.1 rfl (Nat.le_of_ble_eq_true rfl) dX11_lastGeneration_15 hf (fun o ho => c_X11_generationOf l X hinj hZ N S x2 o ho) (fun v15 S15 H locs hf hw => ?_)
      refine r_max C tw6_232 tw3_86 tw1_18 tw3_87 hl.1 (Nat.le_of_ble_eq_true rfl) (Nat.le_of_ble_eq_true rfl) dX11_lastGeneration_18 hf (fun v18 hf => ?_)
      refine lv_istore_n (lv' := [(1, .int (iz v18)), (0, .ref (X.2.2 0)), (2, .int (iz x2))]) C.1.1 C.1.2.1 dX11_lastGeneration_21 rfl hl (by decide) rfl (fun ls hl => ?_)
      refine lv_iinc (v := iz (x2 + 1)) (lv' := [(2, .int (iz (x2 + 1))), (1, .int (iz v18)), (0, .ref (X.2.2 0))]) C.1.1 C.1.2.1 dX11_lastGeneration_22 hl (k := 2) rfl (iz_add _ _) (by decide) rfl (fun ls hl => ?_)
      refine lv_goto (tgt := 4) C.1.1 C.1.2.1 dX11_lastGeneration_25 (by decide) ?_
      exact ih v18 (x2 + 1) S15 H locs ls hf hw (lv_sub hl [2, 1, 0] rfl)
set_option maxRecDepth 100000 in
set_option maxHeartbeats 4000000 in
theorem c_X11_lastGeneration (l : Launch) (X : XT) (hinj : XInj X nM) (hZ : ZOK (Zm X)) (N : Nat) (S : S2) (out : Int × S2) (hf : f_X11_lastGeneration N S = some out) : MI l X shM nM (Zm X) yX11_lastGeneration cX11_lastGeneration 3 (some .int) rmX11_lastGeneration [.ref (X.2.2 0)] S out := by
  refine met_I (own := RX11) (by decide) rfl hinj hZ (Nat.le_of_ble_eq_true rfl) (fun p e s m args below meth c C ls H locs hw hl => ?_)
  unfold f_X11_lastGeneration at hf
  have hl : lv_has ls 3 [(0, .ref (X.2.2 0))] := hl
  refine r_iconst (v := 0) C dX11_lastGeneration_0 ?_
  refine lv_istore_n (lv' := [(1, .int (iz 0)), (0, .ref (X.2.2 0))]) C.1.1 C.1.2.1 dX11_lastGeneration_1 rfl hl (by decide) rfl (fun ls hl => ?_)
  refine r_iconst (v := 0) C dX11_lastGeneration_2 ?_
  refine lv_istore_n (lv' := [(2, .int (iz 0)), (1, .int (iz 0)), (0, .ref (X.2.2 0))]) C.1.1 C.1.2.1 dX11_lastGeneration_3 rfl hl (by decide) rfl (fun ls hl => ?_)
  exact (w_X11_lastGeneration_4 l hinj hZ C out N) 0 0 S H locs ls hf hw (lv_sub hl [2, 1, 0] rfl)
def f_X11_widest_30 (k4 : Int → Int → S2 → Option (Int × S2)) (N : Nat) (x2 : Int) (y0 : Int) (S : S2) : Option (Int × S2) := k4 y0 (x2 + 1) S
def f_X11_widest_4 : Nat → Int → Int → S2 → Option (Int × S2)
  | 0, _, _, _ => none
  | N + 1, x1, x2, S => gI S 0 38 fun v6 => cI x2 v6 (if v6 ≤ x2 then rI x1 S else bI (f_X11_widthOf N S x2) fun v14 S14 => bI (f_X11_widthOf N S14 x1) fun v19 S19 => cI v14 v19 (if v14 ≤ v19 then (f_X11_widest_30 (f_X11_widest_4 N) N) x2 x1 S19 else (f_X11_widest_30 (f_X11_widest_4 N) N) x2 x2 S19))
def f_X11_widest (N : Nat) (S : S2) : Option (Int × S2) := (f_X11_widest_4 N) 0 1 S
abbrev rmX11_widest : Room := { frames := 3, cells := 0, slots := 0, locals := 65 }
theorem hd_X11_widest : yX11_widest.cls ≠ "java/lang/invoke/MethodHandle" ∧ yX11_widest.cls ≠ "java/lang/invoke/VarHandle" ∧ (parseMethodDescriptor yX11_widest.desc).map (fun d => d.parameters.length) = some 0 := by decide +kernel
set_option maxRecDepth 100000 in
set_option maxHeartbeats 4000000 in
theorem w_X11_widest_30 {p : Program} (l : Launch) {e : Env} {s : State} {m : MethodId} {args : Array Value} {below : List Frame} {meth : Method} {c : Code} {X : XT} (hinj : XInj X nM) (hZ : ZOK (Zm X)) (C : CX p s m args meth c cX11_widest 3 RX11 (some .int) X nM (Zm X)) (out : Int × S2) (k4 : Int → Int → S2 → Option (Int × S2)) (hk4 : ∀ (x1 : Int) (x2 : Int) (S : S2) (H : Heap) (locs : List Loc) (ls : Array Slot), k4 x1 x2 S = some out → WH X shM nM s S H locs → lv_has ls 3 [(0, .ref (X.2.2 0)), (1, .int (iz x1)), (2, .int (iz x2))] → W p l e rmX11_widest s m args below meth c H locs 0 0 (QI X shM nM s args below out) (F0 m 4 ls [])) : ∀ (N : Nat), ∀ (x2 : Int) (y0 : Int) (S : S2) (H : Heap) (locs : List Loc) (ls : Array Slot), f_X11_widest_30 k4 N x2 y0 S = some out → WH X shM nM s S H locs → lv_has ls 3 [(0, .ref (X.2.2 0)), (2, .int (iz x2))] → W p l e rmX11_widest s m args below meth c H locs 0 0 (QI X shM nM s args below out) (F0 m 30 ls [.int (iz y0)]) := by
  intro N x2 y0 S H locs ls hf hw hl
  unfold f_X11_widest_30 at hf
  refine lv_istore_n (lv' := [(1, .int (iz y0)), (0, .ref (X.2.2 0)), (2, .int (iz x2))]) C.1.1 C.1.2.1 dX11_widest_30 rfl hl (by decide) rfl (fun ls hl => ?_)
  refine lv_iinc (v := iz (x2 + 1)) (lv' := [(2, .int (iz (x2 + 1))), (1, .int (iz y0)), (0, .ref (X.2.2 0))]) C.1.1 C.1.2.1 dX11_widest_31 hl (k := 2) rfl (iz_add _ _) (by decide) rfl (fun ls hl => ?_)
  refine lv_goto (tgt := 4) C.1.1 C.1.2.1 dX11_widest_34 (by decide) ?_
  exact hk4 y0 (x2 + 1) S H locs ls hf hw (lv_sub hl [2, 1, 0] rfl)
set_option maxRecDepth 100000 in
set_option maxHeartbeats 4000000 in
theorem w_X11_widest_4 {p : Program} (l : Launch) {e : Env} {s : State} {m : MethodId} {args : Array Value} {below : List Frame} {meth : Method} {c : Code} {X : XT} (hinj : XInj X nM) (hZ : ZOK (Zm X)) (C : CX p s m args meth c cX11_widest 3 RX11 (some .int) X nM (Zm X)) (out : Int × S2) : ∀ (N : Nat), ∀ (x1 : Int) (x2 : Int) (S : S2) (H : Heap) (locs : List Loc) (ls : Array Slot), f_X11_widest_4 N x1 x2 S = some out → WH X shM nM s S H locs → lv_has ls 3 [(0, .ref (X.2.2 0)), (1, .int (iz x1)), (2, .int (iz x2))] → W p l e rmX11_widest s m args below meth c H locs 0 0 (QI X shM nM s args below out) (F0 m 4 ls []) := by
  intro N
  induction N with
  | zero => intro x1 x2 S H locs ls hf hw hl; cases hf
  | succ N ih =>
    intro x1 x2 S H locs ls hf hw hl
    rw [f_X11_widest_4.eq_2] at hf
    refine lv_iload_n C.1.1 C.1.2.1 dX11_widest_4 rfl (lv_at hl 2 rfl) ?_
    refine lv_aload_n C.1.1 C.1.2.1 dX11_widest_5 rfl (lv_at hl 0 rfl) ?_
    refine r_getI (k := 38) C hw shM_0 ltM_0 cO11 rfl (by decide) tw5_182 rfl dX11_widest_6 hf (fun v6 hf => ?_)
    refine r_icmp_ge C (tgt := 37) dX11_widest_9 (by decide) hf (fun hf => ?_) (fun hf => ?_)
    · refine lv_iload_n C.1.1 C.1.2.1 dX11_widest_37 rfl (lv_at hl 1 rfl) ?_
      exact r_retI C hw dX11_widest_38 hf
    · refine lv_aload_n C.1.1 C.1.2.1 dX11_widest_12 rfl (lv_at hl 0 rfl) ?_
      refine lv_iload_n C.1.1 C.1.2.1 dX11_widest_13 rfl (lv_at hl 2 rfl) ?_
      refine r_callI (As := [.int (iz x2)]) (rest := []) (rm := rmX11_widthOf) C hw shM_0 ltM_0 cO11 tw7_210 tw7_212 tp_104 tw1_12 tw7_213 hd_X11_widthOf rfl ⟨⟨rfl, rfl⟩, Nat.le_of_ble_eq_true rfl, Nat.le_of_ble_eq_true rfl⟩ hl.1 rfl (Nat.le_of_ble_eq_true rfl) dX11_widest_14 hf (fun o ho => c_X11_widthOf l X hinj hZ N S x2 o ho) (fun v14 S14 H locs hf hw => ?_)
      refine lv_aload_n C.1.1 C.1.2.1 dX11_widest_17 rfl (lv_at hl 0 rfl) ?_
      refine lv_iload_n C.1.1 C.1.2.1 dX11_widest_18 rfl (lv_at hl 1 rfl) ?_
      refine r_callI (As := [.int (iz x1)]) (rest := [.int (iz v14)]) (rm := rmX11_widthOf) C hw shM_0 ltM_0 cO11 tw7_210 tw7_212 tp_104 tw1_12 tw7_213 hd_X11_widthOf rfl ⟨⟨rfl, rfl⟩, Nat.le_of_ble_eq_true rfl, Nat.le_of_ble_eq_true rfl⟩ hl.1 rfl (Nat.le_of_ble_eq_true rfl) dX11_widest_19 hf (fun o ho => c_X11_widthOf l X hinj hZ N S14 x1 o ho) (fun v19 S19 H locs hf hw => ?_)
      refine r_icmp_le C (tgt := 29) dX11_widest_22 (by decide) hf (fun hf => ?_) (fun hf => ?_)
      · refine lv_iload_n C.1.1 C.1.2.1 dX11_widest_29 rfl (lv_at hl 1 rfl) ?_
        exact (w_X11_widest_30 l hinj hZ C out (f_X11_widest_4 N) ih N) x2 x1 S19 H locs ls hf hw (lv_sub hl [0, 2] rfl)
      · refine lv_iload_n C.1.1 C.1.2.1 dX11_widest_25 rfl (lv_at hl 2 rfl) ?_
        refine lv_goto (tgt := 30) C.1.1 C.1.2.1 dX11_widest_26 (by decide) ?_
        exact (w_X11_widest_30 l hinj hZ C out (f_X11_widest_4 N) ih N) x2 x2 S19 H locs ls hf hw (lv_sub hl [0, 2] rfl)
set_option maxRecDepth 100000 in
set_option maxHeartbeats 4000000 in
theorem c_X11_widest (l : Launch) (X : XT) (hinj : XInj X nM) (hZ : ZOK (Zm X)) (N : Nat) (S : S2) (out : Int × S2) (hf : f_X11_widest N S = some out) : MI l X shM nM (Zm X) yX11_widest cX11_widest 3 (some .int) rmX11_widest [.ref (X.2.2 0)] S out := by
  refine met_I (own := RX11) (by decide) rfl hinj hZ (Nat.le_of_ble_eq_true rfl) (fun p e s m args below meth c C ls H locs hw hl => ?_)
  unfold f_X11_widest at hf
  have hl : lv_has ls 3 [(0, .ref (X.2.2 0))] := hl
  refine r_iconst (v := 0) C dX11_widest_0 ?_
  refine lv_istore_n (lv' := [(1, .int (iz 0)), (0, .ref (X.2.2 0))]) C.1.1 C.1.2.1 dX11_widest_1 rfl hl (by decide) rfl (fun ls hl => ?_)
  refine r_iconst (v := 1) C dX11_widest_2 ?_
  refine lv_istore_n (lv' := [(2, .int (iz 1)), (1, .int (iz 0)), (0, .ref (X.2.2 0))]) C.1.1 C.1.2.1 dX11_widest_3 rfl hl (by decide) rfl (fun ls hl => ?_)
  exact (w_X11_widest_4 l hinj hZ C out N) 0 1 S H locs ls hf hw (lv_sub hl [2, 1, 0] rfl)
def f_X11_held (N : Nat) (S : S2) (a1 : Int) : Option (Int × S2) := cI a1 0 (if a1 = 0 then bI (f_X11_many N S) fun v37 S37 => rI v37 S37 else (if a1 = 1 then gI S 0 21 fun v42 => rI v42 S else (if a1 = 2 then gI S 0 2 fun v47 => rI v47 S else (if a1 = 3 then aI S 8 231 50 fun v57 => rI v57 S else (if a1 = 4 then gI S 0 44 fun v60 => rI v60 S else rI (-1000000) S)))))
abbrev rmX11_held : Room := { frames := 1, cells := 0, slots := 0, locals := 20 }
theorem hd_X11_held : yX11_held.cls ≠ "java/lang/invoke/MethodHandle" ∧ yX11_held.cls ≠ "java/lang/invoke/VarHandle" ∧ (parseMethodDescriptor yX11_held.desc).map (fun d => d.parameters.length) = some 1 := by decide +kernel
set_option maxRecDepth 100000 in
set_option maxHeartbeats 4000000 in
theorem c_X11_held (l : Launch) (X : XT) (hinj : XInj X nM) (hZ : ZOK (Zm X)) (N : Nat) (S : S2) (a1 : Int) (out : Int × S2) (hf : f_X11_held N S a1 = some out) : MI l X shM nM (Zm X) yX11_held cX11_held 2 (some .int) rmX11_held [.ref (X.2.2 0), .int (iz a1)] S out := by
  refine met_I (own := RX11) (by decide) rfl hinj hZ (Nat.le_of_ble_eq_true rfl) (fun p e s m args below meth c C ls H locs hw hl => ?_)
  unfold f_X11_held at hf
  have hl : lv_has ls 2 [(0, .ref (X.2.2 0)), (1, .int (iz a1))] := hl
  refine lv_iload_n C.1.1 C.1.2.1 dX11_held_0 rfl (lv_at hl 1 rfl) ?_
  obtain ⟨⟨hsw, -⟩, hf⟩ := cI_some hf
  rcases ite_some hf with ⟨hc1_0, hf⟩ | ⟨hc1_0, hf⟩
  · refine lv_tableIn (tgt := 36) C.1.1 C.1.2.1 dX11_held_1 (by rw [hc1_0]; decide) (by rw [hc1_0]; decide) (by rw [hc1_0]; rfl) (by decide) ?_
    refine lv_aload_n C.1.1 C.1.2.1 dX11_held_36 rfl (lv_at hl 0 rfl) ?_
    refine r_callI (As := []) (rest := []) (rm := rmX11_many) C hw shM_0 ltM_0 cO11 tw6_192 tw6_194 tp_60 tw1_12 tw6_195 hd_X11_many rfl ⟨⟨rfl, rfl⟩, Nat.le_of_ble_eq_true rfl, Nat.le_of_ble_eq_true rfl⟩ hl.1 rfl (Nat.le_of_ble_eq_true rfl) dX11_held_37 hf (fun o ho => c_X11_many l X hinj hZ N S o ho) (fun v37 S37 H locs hf hw => ?_)
    exact r_retI C hw dX11_held_40 hf
  · skip
    rcases ite_some hf with ⟨hc1_1, hf⟩ | ⟨hc1_1, hf⟩
    · refine lv_tableIn (tgt := 41) C.1.1 C.1.2.1 dX11_held_1 (by rw [hc1_1]; decide) (by rw [hc1_1]; decide) (by rw [hc1_1]; rfl) (by decide) ?_
      refine lv_aload_n C.1.1 C.1.2.1 dX11_held_41 rfl (lv_at hl 0 rfl) ?_
      refine r_getI (k := 21) C hw shM_0 ltM_0 cO11 rfl (by decide) tw5_165 rfl dX11_held_42 hf (fun v42 hf => ?_)
      exact r_retI C hw dX11_held_45 hf
    · skip
      rcases ite_some hf with ⟨hc1_2, hf⟩ | ⟨hc1_2, hf⟩
      · refine lv_tableIn (tgt := 46) C.1.1 C.1.2.1 dX11_held_1 (by rw [hc1_2]; decide) (by rw [hc1_2]; decide) (by rw [hc1_2]; rfl) (by decide) ?_
        refine lv_aload_n C.1.1 C.1.2.1 dX11_held_46 rfl (lv_at hl 0 rfl) ?_
        refine r_getI (k := 2) C hw shM_0 ltM_0 cO11 rfl (by decide) tw5_146 rfl dX11_held_47 hf (fun v47 hf => ?_)
        exact r_retI C hw dX11_held_50 hf
      · skip
        rcases ite_some hf with ⟨hc1_3, hf⟩ | ⟨hc1_3, hf⟩
        · refine lv_tableIn (tgt := 51) C.1.1 C.1.2.1 dX11_held_1 (by rw [hc1_3]; decide) (by rw [hc1_3]; decide) (by rw [hc1_3]; rfl) (by decide) ?_
          refine lv_aload_n C.1.1 C.1.2.1 dX11_held_51 rfl (lv_at hl 0 rfl) ?_
          refine r_getR (k := 22) C hw shM_0 ltM_0 cO11 rfl (by decide) tw5_166 rfl dX11_held_52 ?_
          refine r_bipush (v := 50) C dX11_held_55 (by decide) ?_
          refine r_iald C hw shM_8 ltM_8 (Nat.le_of_ble_eq_true rfl) dX11_held_57 hf (fun v57 hf => ?_)
          exact r_retI C hw dX11_held_58 hf
        · skip
          rcases ite_some hf with ⟨hc1_4, hf⟩ | ⟨hc1_4, hf⟩
          · refine lv_tableIn (tgt := 59) C.1.1 C.1.2.1 dX11_held_1 (by rw [hc1_4]; decide) (by rw [hc1_4]; decide) (by rw [hc1_4]; rfl) (by decide) ?_
            refine lv_aload_n C.1.1 C.1.2.1 dX11_held_59 rfl (lv_at hl 0 rfl) ?_
            refine r_getI (k := 44) C hw shM_0 ltM_0 cO11 rfl (by decide) tw5_188 rfl dX11_held_60 hf (fun v60 hf => ?_)
            exact r_retI C hw dX11_held_63 hf
          · skip
            refine lv_tableOut (tgt := 64) C.1.1 C.1.2.1 dX11_held_1 (by rw [sw_in hsw]; omega) (by decide) ?_
            refine r_ldc (v := (-1000000)) C tw6_180 (by decide) dX11_held_64 ?_
            exact r_retI C hw dX11_held_66 hf
def f_X11_finds_187 (N : Nat) (S : S2) : Option (S2) := bV (f_X11_matches N S 0) fun S189 => rV S189
def f_X11_finds_177 (k123 : Int → S2 → Option (S2)) (N : Nat) (x1 : Int) (y0 : Int) (y1 : Int) (S : S2) : Option (S2) := uI S 0 38 (y1 + y0) fun S178 => k123 (x1 + 1) S178
def f_X11_finds_172 (k123 : Int → S2 → Option (S2)) (N : Nat) (x1 : Int) (y0 : Int) (S : S2) : Option (S2) := (f_X11_finds_177 k123 N) x1 1 y0 S
def f_X11_finds_123 (k187 : S2 → Option (S2)) : Nat → Int → S2 → Option (S2)
  | 0, _, _ => none
  | N + 1, x1, S => gI S 0 35 fun v125 => cI x1 v125 (if v125 ≤ x1 then k187 S else aI S 18 48 x1 fun v140 => sI S 19 48 v140 x1 fun S142 => gI S142 0 38 fun v145 => cI x1 0 (if x1 = 0 then (f_X11_finds_172 (f_X11_finds_123 k187 N) N) x1 v145 S142 else aI S142 18 48 x1 fun v158 => bI (f_X11_lifeOf N S142 v158) fun v159 S159 => aI S159 8 231 49 fun v168 => cI v159 v168 (if v159 ≤ v168 then (f_X11_finds_177 (f_X11_finds_123 k187 N) N) x1 0 v145 S159 else (f_X11_finds_172 (f_X11_finds_123 k187 N) N) x1 v145 S159)))
def f_X11_finds_116 (N : Nat) (S : S2) : Option (S2) := uI S 0 38 0 fun S118 => (f_X11_finds_123 (f_X11_finds_187 N) N) 0 S118
def f_X11_finds_103 (k6 : Int → S2 → Option (S2)) (N : Nat) (x1 : Int) (x2 : Int) (S : S2) : Option (S2) := sI S 18 48 x2 x1 fun S109 => k6 (x1 + 1) S109
def f_X11_finds_83 (k16 : Int → Int → S2 → Option (S2)) (N : Nat) (x1 : Int) (x2 : Int) (S : S2) : Option (S2) := aI S 18 48 (x2 - 1) fun v95 => sI S 18 48 x2 v95 fun S96 => k16 x1 (x2 + (-1)) S96
def f_X11_finds_16 (k103 : Int → Int → S2 → Option (S2)) : Nat → Int → Int → S2 → Option (S2)
  | 0, _, _, _ => none
  | N + 1, x1, x2, S => cI x2 1 (if x2 ≤ 1 then k103 x1 x2 S else aI S 18 48 (x2 - 1) fun v29 => bI (f_X11_lifeOf N S v29) fun v30 S30 => bI (f_X11_lifeOf N S30 x1) fun v35 S35 => cI v30 v35 (if v30 < v35 then (f_X11_finds_83 (f_X11_finds_16 k103 N) N) x1 x2 S35 else aI S35 18 48 (x2 - 1) fun v49 => bI (f_X11_lifeOf N S35 v49) fun v50 S50 => bI (f_X11_lifeOf N S50 x1) fun v55 S55 => cI v50 v55 (if v50 = v55 then aI S55 18 48 (x2 - 1) fun v72 => aI S55 13 48 v72 fun v73 => aI S55 13 48 x1 fun v79 => cI v73 v79 (if v73 ≤ v79 then k103 x1 x2 S55 else (f_X11_finds_83 (f_X11_finds_16 k103 N) N) x1 x2 S55) else k103 x1 x2 S55)))
def f_X11_finds_6 (k116 : S2 → Option (S2)) : Nat → Int → S2 → Option (S2)
  | 0, _, _ => none
  | N + 1, x1, S => gI S 0 35 fun v8 => cI x1 v8 (if v8 ≤ x1 then k116 S else (f_X11_finds_16 (f_X11_finds_103 (f_X11_finds_6 k116 N) N) N) x1 x1 S)
def f_X11_finds (N : Nat) (S : S2) : Option (S2) := bV (f_X11_lets N S) fun S1 => (f_X11_finds_6 (f_X11_finds_116 N) N) 0 S1
abbrev rmX11_finds : Room := { frames := 3, cells := 0, slots := 0, locals := 71 }
theorem hd_X11_finds : yX11_finds.cls ≠ "java/lang/invoke/MethodHandle" ∧ yX11_finds.cls ≠ "java/lang/invoke/VarHandle" ∧ (parseMethodDescriptor yX11_finds.desc).map (fun d => d.parameters.length) = some 0 := by decide +kernel
set_option maxRecDepth 100000 in
set_option maxHeartbeats 4000000 in
theorem w_X11_finds_187 {p : Program} (l : Launch) {e : Env} {s : State} {m : MethodId} {args : Array Value} {below : List Frame} {meth : Method} {c : Code} {X : XT} (hinj : XInj X nM) (hZ : ZOK (Zm X)) (C : CX p s m args meth c cX11_finds 3 RX11 none X nM (Zm X)) (out : S2) : ∀ (N : Nat), ∀ (S : S2) (H : Heap) (locs : List Loc) (ls : Array Slot), f_X11_finds_187 N S = some out → WH X shM nM s S H locs → lv_has ls 3 [(0, .ref (X.2.2 0))] → W p l e rmX11_finds s m args below meth c H locs 0 0 (QV X shM nM s args below out) (F0 m 187 ls []) := by
  intro N S H locs ls hf hw hl
  unfold f_X11_finds_187 at hf
  refine lv_aload_n C.1.1 C.1.2.1 dX11_finds_187 rfl (lv_at hl 0 rfl) ?_
  refine r_iconst (v := 0) C dX11_finds_188 ?_
  refine r_callV (As := [.int (iz 0)]) (rest := []) (rm := rmX11_matches) C hw shM_0 ltM_0 cO11 tw7_37 tw7_39 tp_79 tw1_12 tw7_40 hd_X11_matches rfl ⟨⟨rfl, rfl⟩, Nat.le_of_ble_eq_true rfl, Nat.le_of_ble_eq_true rfl⟩ hl.1 rfl (Nat.le_of_ble_eq_true rfl) dX11_finds_189 hf (fun o ho => c_X11_matches l X hinj hZ N S 0 o ho) (fun S189 H locs hf hw => ?_)
  exact r_retV C hw dX11_finds_192 hf
set_option maxRecDepth 100000 in
set_option maxHeartbeats 4000000 in
theorem w_X11_finds_177 {p : Program} (l : Launch) {e : Env} {s : State} {m : MethodId} {args : Array Value} {below : List Frame} {meth : Method} {c : Code} {X : XT} (hinj : XInj X nM) (hZ : ZOK (Zm X)) (C : CX p s m args meth c cX11_finds 3 RX11 none X nM (Zm X)) (out : S2) (k123 : Int → S2 → Option (S2)) (hk123 : ∀ (x1 : Int) (S : S2) (H : Heap) (locs : List Loc) (ls : Array Slot), k123 x1 S = some out → WH X shM nM s S H locs → lv_has ls 3 [(0, .ref (X.2.2 0)), (1, .int (iz x1))] → W p l e rmX11_finds s m args below meth c H locs 0 0 (QV X shM nM s args below out) (F0 m 123 ls [])) : ∀ (N : Nat), ∀ (x1 : Int) (y0 : Int) (y1 : Int) (S : S2) (H : Heap) (locs : List Loc) (ls : Array Slot), f_X11_finds_177 k123 N x1 y0 y1 S = some out → WH X shM nM s S H locs → lv_has ls 3 [(0, .ref (X.2.2 0)), (1, .int (iz x1))] → W p l e rmX11_finds s m args below meth c H locs 0 0 (QV X shM nM s args below out) (F0 m 177 ls [.int (iz y0), .int (iz y1), .ref (X.2.2 0)]) := by
  intro N x1 y0 y1 S H locs ls hf hw hl
  unfold f_X11_finds_177 at hf
  refine r_iadd C dX11_finds_177 ?_
  refine r_putI (k := 38) C hw shM_0 ltM_0 cO11 rfl (by decide) tw5_182 rfl rfl rfl dX11_finds_178 hf (fun S178 H locs hf hw => ?_)
  refine lv_iinc (v := iz (x1 + 1)) (lv' := [(1, .int (iz (x1 + 1))), (0, .ref (X.2.2 0))]) C.1.1 C.1.2.1 dX11_finds_181 hl (k := 1) rfl (iz_add _ _) (by decide) rfl (fun ls hl => ?_)
  refine lv_goto (tgt := 123) C.1.1 C.1.2.1 dX11_finds_184 (by decide) ?_
  exact hk123 (x1 + 1) S178 H locs ls hf hw (lv_sub hl [1, 0] rfl)
set_option maxRecDepth 100000 in
set_option maxHeartbeats 4000000 in
theorem w_X11_finds_172 {p : Program} (l : Launch) {e : Env} {s : State} {m : MethodId} {args : Array Value} {below : List Frame} {meth : Method} {c : Code} {X : XT} (hinj : XInj X nM) (hZ : ZOK (Zm X)) (C : CX p s m args meth c cX11_finds 3 RX11 none X nM (Zm X)) (out : S2) (k123 : Int → S2 → Option (S2)) (hk123 : ∀ (x1 : Int) (S : S2) (H : Heap) (locs : List Loc) (ls : Array Slot), k123 x1 S = some out → WH X shM nM s S H locs → lv_has ls 3 [(0, .ref (X.2.2 0)), (1, .int (iz x1))] → W p l e rmX11_finds s m args below meth c H locs 0 0 (QV X shM nM s args below out) (F0 m 123 ls [])) : ∀ (N : Nat), ∀ (x1 : Int) (y0 : Int) (S : S2) (H : Heap) (locs : List Loc) (ls : Array Slot), f_X11_finds_172 k123 N x1 y0 S = some out → WH X shM nM s S H locs → lv_has ls 3 [(0, .ref (X.2.2 0)), (1, .int (iz x1))] → W p l e rmX11_finds s m args below meth c H locs 0 0 (QV X shM nM s args below out) (F0 m 172 ls [.int (iz y0), .ref (X.2.2 0)]) := by
  intro N x1 y0 S H locs ls hf hw hl
  unfold f_X11_finds_172 at hf
  refine r_iconst (v := 1) C dX11_finds_172 ?_
  refine lv_goto (tgt := 177) C.1.1 C.1.2.1 dX11_finds_173 (by decide) ?_
  exact (w_X11_finds_177 l hinj hZ C out k123 hk123 N) x1 1 y0 S H locs ls hf hw (lv_sub hl [0, 1] rfl)
set_option maxRecDepth 100000 in
set_option maxHeartbeats 4000000 in
theorem w_X11_finds_123 {p : Program} (l : Launch) {e : Env} {s : State} {m : MethodId} {args : Array Value} {below : List Frame} {meth : Method} {c : Code} {X : XT} (hinj : XInj X nM) (hZ : ZOK (Zm X)) (C : CX p s m args meth c cX11_finds 3 RX11 none X nM (Zm X)) (out : S2) (k187 : S2 → Option (S2)) (hk187 : ∀ (S : S2) (H : Heap) (locs : List Loc) (ls : Array Slot), k187 S = some out → WH X shM nM s S H locs → lv_has ls 3 [(0, .ref (X.2.2 0))] → W p l e rmX11_finds s m args below meth c H locs 0 0 (QV X shM nM s args below out) (F0 m 187 ls [])) : ∀ (N : Nat), ∀ (x1 : Int) (S : S2) (H : Heap) (locs : List Loc) (ls : Array Slot), f_X11_finds_123 k187 N x1 S = some out → WH X shM nM s S H locs → lv_has ls 3 [(0, .ref (X.2.2 0)), (1, .int (iz x1))] → W p l e rmX11_finds s m args below meth c H locs 0 0 (QV X shM nM s args below out) (F0 m 123 ls []) := by
  intro N
  induction N with
  | zero => intro x1 S H locs ls hf hw hl; cases hf
  | succ N ih =>
    intro x1 S H locs ls hf hw hl
    rw [f_X11_finds_123.eq_2] at hf
    refine lv_iload_n C.1.1 C.1.2.1 dX11_finds_123 rfl (lv_at hl 1 rfl) ?_
    refine lv_aload_n C.1.1 C.1.2.1 dX11_finds_124 rfl (lv_at hl 0 rfl) ?_
    refine r_getI (k := 35) C hw shM_0 ltM_0 cO11 rfl (by decide) tw5_179 rfl dX11_finds_125 hf (fun v125 hf => ?_)
    refine r_icmp_ge C (tgt := 187) dX11_finds_128 (by decide) hf (fun hf => ?_) (fun hf => ?_)
    · exact hk187 S H locs ls hf hw (lv_sub hl [0] rfl)
    · refine lv_aload_n C.1.1 C.1.2.1 dX11_finds_131 rfl (lv_at hl 0 rfl) ?_
      refine r_getR (k := 37) C hw shM_0 ltM_0 cO11 rfl (by decide) tw5_181 rfl dX11_finds_132 ?_
      refine lv_aload_n C.1.1 C.1.2.1 dX11_finds_135 rfl (lv_at hl 0 rfl) ?_
      refine r_getR (k := 36) C hw shM_0 ltM_0 cO11 rfl (by decide) tw5_180 rfl dX11_finds_136 ?_
      refine lv_iload_n C.1.1 C.1.2.1 dX11_finds_139 rfl (lv_at hl 1 rfl) ?_
      refine r_iald C hw shM_18 ltM_18 (Nat.le_of_ble_eq_true rfl) dX11_finds_140 hf (fun v140 hf => ?_)
      refine lv_iload_n C.1.1 C.1.2.1 dX11_finds_141 rfl (lv_at hl 1 rfl) ?_
      refine r_iast C hw shM_19 ltM_19 (Nat.le_of_ble_eq_true rfl) dX11_finds_142 hf (fun S142 H locs hf hw => ?_)
      refine lv_aload_n C.1.1 C.1.2.1 dX11_finds_143 rfl (lv_at hl 0 rfl) ?_
      refine lv_dup C.1.1 C.1.2.1 dX11_finds_144 rfl ?_
      refine r_getI (k := 38) C hw shM_0 ltM_0 cO11 rfl (by decide) tw5_182 rfl dX11_finds_145 hf (fun v145 hf => ?_)
      refine lv_iload_n C.1.1 C.1.2.1 dX11_finds_148 rfl (lv_at hl 1 rfl) ?_
      refine r_if_eq C (tgt := 172) dX11_finds_149 (by decide) hf (fun hf => ?_) (fun hf => ?_)
      · exact (w_X11_finds_172 l hinj hZ C out (f_X11_finds_123 k187 N) ih N) x1 v145 S142 H locs ls hf hw (lv_sub hl [0, 1] rfl)
      · refine lv_aload_n C.1.1 C.1.2.1 dX11_finds_152 rfl (lv_at hl 0 rfl) ?_
        refine lv_aload_n C.1.1 C.1.2.1 dX11_finds_153 rfl (lv_at hl 0 rfl) ?_
        refine r_getR (k := 36) C hw shM_0 ltM_0 cO11 rfl (by decide) tw5_180 rfl dX11_finds_154 ?_
        refine lv_iload_n C.1.1 C.1.2.1 dX11_finds_157 rfl (lv_at hl 1 rfl) ?_
        refine r_iald C hw shM_18 ltM_18 (Nat.le_of_ble_eq_true rfl) dX11_finds_158 hf (fun v158 hf => ?_)
        refine r_callI (As := [.int (iz v158)]) (rest := [.int (iz v145), .ref (X.2.2 0)]) (rm := rmX11_lifeOf) C hw shM_0 ltM_0 cO11 tw7_33 tw7_35 tp_78 tw1_12 tw7_36 hd_X11_lifeOf rfl ⟨⟨rfl, rfl⟩, Nat.le_of_ble_eq_true rfl, Nat.le_of_ble_eq_true rfl⟩ hl.1 rfl (Nat.le_of_ble_eq_true rfl) dX11_finds_159 hf (fun o ho => c_X11_lifeOf l X hinj hZ N S142 v158 o ho) (fun v159 S159 H locs hf hw => ?_)
        refine lv_aload_n C.1.1 C.1.2.1 dX11_finds_162 rfl (lv_at hl 0 rfl) ?_
        refine r_getR (k := 22) C hw shM_0 ltM_0 cO11 rfl (by decide) tw5_166 rfl dX11_finds_163 ?_
        refine r_bipush (v := 49) C dX11_finds_166 (by decide) ?_
        refine r_iald C hw shM_8 ltM_8 (Nat.le_of_ble_eq_true rfl) dX11_finds_168 hf (fun v168 hf => ?_)
        refine r_icmp_le C (tgt := 176) dX11_finds_169 (by decide) hf (fun hf => ?_) (fun hf => ?_)
        · refine r_iconst (v := 0) C dX11_finds_176 ?_
          exact (w_X11_finds_177 l hinj hZ C out (f_X11_finds_123 k187 N) ih N) x1 0 v145 S159 H locs ls hf hw (lv_sub hl [0, 1] rfl)
        · exact (w_X11_finds_172 l hinj hZ C out (f_X11_finds_123 k187 N) ih N) x1 v145 S159 H locs ls hf hw (lv_sub hl [0, 1] rfl)
set_option maxRecDepth 100000 in
set_option maxHeartbeats 4000000 in
theorem w_X11_finds_116 {p : Program} (l : Launch) {e : Env} {s : State} {m : MethodId} {args : Array Value} {below : List Frame} {meth : Method} {c : Code} {X : XT} (hinj : XInj X nM) (hZ : ZOK (Zm X)) (C : CX p s m args meth c cX11_finds 3 RX11 none X nM (Zm X)) (out : S2) : ∀ (N : Nat), ∀ (S : S2) (H : Heap) (locs : List Loc) (ls : Array Slot), f_X11_finds_116 N S = some out → WH X shM nM s S H locs → lv_has ls 3 [(0, .ref (X.2.2 0))] → W p l e rmX11_finds s m args below meth c H locs 0 0 (QV X shM nM s args below out) (F0 m 116 ls []) := by
  intro N S H locs ls hf hw hl
  unfold f_X11_finds_116 at hf
  refine lv_aload_n C.1.1 C.1.2.1 dX11_finds_116 rfl (lv_at hl 0 rfl) ?_
  refine r_iconst (v := 0) C dX11_finds_117 ?_
  refine r_putI (k := 38) C hw shM_0 ltM_0 cO11 rfl (by decide) tw5_182 rfl rfl rfl dX11_finds_118 hf (fun S118 H locs hf hw => ?_)
  refine r_iconst (v := 0) C dX11_finds_121 ?_
  refine lv_istore_n (lv' := [(1, .int (iz 0)), (0, .ref (X.2.2 0))]) C.1.1 C.1.2.1 dX11_finds_122 rfl hl (by decide) rfl (fun ls hl => ?_)
  exact (w_X11_finds_123 l hinj hZ C out (f_X11_finds_187 N) (w_X11_finds_187 l hinj hZ C out N) N) 0 S118 H locs ls hf hw (lv_sub hl [1, 0] rfl)
set_option maxRecDepth 100000 in
set_option maxHeartbeats 4000000 in
theorem w_X11_finds_103 {p : Program} (l : Launch) {e : Env} {s : State} {m : MethodId} {args : Array Value} {below : List Frame} {meth : Method} {c : Code} {X : XT} (hinj : XInj X nM) (hZ : ZOK (Zm X)) (C : CX p s m args meth c cX11_finds 3 RX11 none X nM (Zm X)) (out : S2) (k6 : Int → S2 → Option (S2)) (hk6 : ∀ (x1 : Int) (S : S2) (H : Heap) (locs : List Loc) (ls : Array Slot), k6 x1 S = some out → WH X shM nM s S H locs → lv_has ls 3 [(0, .ref (X.2.2 0)), (1, .int (iz x1))] → W p l e rmX11_finds s m args below meth c H locs 0 0 (QV X shM nM s args below out) (F0 m 6 ls [])) : ∀ (N : Nat), ∀ (x1 : Int) (x2 : Int) (S : S2) (H : Heap) (locs : List Loc) (ls : Array Slot), f_X11_finds_103 k6 N x1 x2 S = some out → WH X shM nM s S H locs → lv_has ls 3 [(0, .ref (X.2.2 0)), (1, .int (iz x1)), (2, .int (iz x2))] → W p l e rmX11_finds s m args below meth c H locs 0 0 (QV X shM nM s args below out) (F0 m 103 ls []) := by
  intro N x1 x2 S H locs ls hf hw hl
  unfold f_X11_finds_103 at hf
  refine lv_aload_n C.1.1 C.1.2.1 dX11_finds_103 rfl (lv_at hl 0 rfl) ?_
  refine r_getR (k := 36) C hw shM_0 ltM_0 cO11 rfl (by decide) tw5_180 rfl dX11_finds_104 ?_
  refine lv_iload_n C.1.1 C.1.2.1 dX11_finds_107 rfl (lv_at hl 2 rfl) ?_
  refine lv_iload_n C.1.1 C.1.2.1 dX11_finds_108 rfl (lv_at hl 1 rfl) ?_
  refine r_iast C hw shM_18 ltM_18 (Nat.le_of_ble_eq_true rfl) dX11_finds_109 hf (fun S109 H locs hf hw => ?_)
  refine lv_iinc (v := iz (x1 + 1)) (lv' := [(1, .int (iz (x1 + 1))), (0, .ref (X.2.2 0)), (2, .int (iz x2))]) C.1.1 C.1.2.1 dX11_finds_110 hl (k := 1) rfl (iz_add _ _) (by decide) rfl (fun ls hl => ?_)
  refine lv_goto (tgt := 6) C.1.1 C.1.2.1 dX11_finds_113 (by decide) ?_
  exact hk6 (x1 + 1) S109 H locs ls hf hw (lv_sub hl [1, 0] rfl)
set_option maxRecDepth 100000 in
set_option maxHeartbeats 4000000 in
theorem w_X11_finds_83 {p : Program} (l : Launch) {e : Env} {s : State} {m : MethodId} {args : Array Value} {below : List Frame} {meth : Method} {c : Code} {X : XT} (hinj : XInj X nM) (hZ : ZOK (Zm X)) (C : CX p s m args meth c cX11_finds 3 RX11 none X nM (Zm X)) (out : S2) (k16 : Int → Int → S2 → Option (S2)) (hk16 : ∀ (x1 : Int) (x2 : Int) (S : S2) (H : Heap) (locs : List Loc) (ls : Array Slot), k16 x1 x2 S = some out → WH X shM nM s S H locs → lv_has ls 3 [(0, .ref (X.2.2 0)), (1, .int (iz x1)), (2, .int (iz x2))] → W p l e rmX11_finds s m args below meth c H locs 0 0 (QV X shM nM s args below out) (F0 m 16 ls [])) : ∀ (N : Nat), ∀ (x1 : Int) (x2 : Int) (S : S2) (H : Heap) (locs : List Loc) (ls : Array Slot), f_X11_finds_83 k16 N x1 x2 S = some out → WH X shM nM s S H locs → lv_has ls 3 [(0, .ref (X.2.2 0)), (1, .int (iz x1)), (2, .int (iz x2))] → W p l e rmX11_finds s m args below meth c H locs 0 0 (QV X shM nM s args below out) (F0 m 83 ls []) := by
  intro N x1 x2 S H locs ls hf hw hl
  unfold f_X11_finds_83 at hf
  refine lv_aload_n C.1.1 C.1.2.1 dX11_finds_83 rfl (lv_at hl 0 rfl) ?_
  refine r_getR (k := 36) C hw shM_0 ltM_0 cO11 rfl (by decide) tw5_180 rfl dX11_finds_84 ?_
  refine lv_iload_n C.1.1 C.1.2.1 dX11_finds_87 rfl (lv_at hl 2 rfl) ?_
  refine lv_aload_n C.1.1 C.1.2.1 dX11_finds_88 rfl (lv_at hl 0 rfl) ?_
  refine r_getR (k := 36) C hw shM_0 ltM_0 cO11 rfl (by decide) tw5_180 rfl dX11_finds_89 ?_
  refine lv_iload_n C.1.1 C.1.2.1 dX11_finds_92 rfl (lv_at hl 2 rfl) ?_
  refine r_iconst (v := 1) C dX11_finds_93 ?_
  refine r_isub C dX11_finds_94 ?_
  refine r_iald C hw shM_18 ltM_18 (Nat.le_of_ble_eq_true rfl) dX11_finds_95 hf (fun v95 hf => ?_)
  refine r_iast C hw shM_18 ltM_18 (Nat.le_of_ble_eq_true rfl) dX11_finds_96 hf (fun S96 H locs hf hw => ?_)
  refine lv_iinc (v := iz (x2 + (-1))) (lv' := [(2, .int (iz (x2 + (-1)))), (0, .ref (X.2.2 0)), (1, .int (iz x1))]) C.1.1 C.1.2.1 dX11_finds_97 hl (k := 2) rfl (iz_add _ _) (by decide) rfl (fun ls hl => ?_)
  refine lv_goto (tgt := 16) C.1.1 C.1.2.1 dX11_finds_100 (by decide) ?_
  exact hk16 x1 (x2 + (-1)) S96 H locs ls hf hw (lv_sub hl [1, 2, 0] rfl)
set_option maxRecDepth 100000 in
set_option maxHeartbeats 4000000 in
theorem w_X11_finds_16 {p : Program} (l : Launch) {e : Env} {s : State} {m : MethodId} {args : Array Value} {below : List Frame} {meth : Method} {c : Code} {X : XT} (hinj : XInj X nM) (hZ : ZOK (Zm X)) (C : CX p s m args meth c cX11_finds 3 RX11 none X nM (Zm X)) (out : S2) (k103 : Int → Int → S2 → Option (S2)) (hk103 : ∀ (x1 : Int) (x2 : Int) (S : S2) (H : Heap) (locs : List Loc) (ls : Array Slot), k103 x1 x2 S = some out → WH X shM nM s S H locs → lv_has ls 3 [(0, .ref (X.2.2 0)), (1, .int (iz x1)), (2, .int (iz x2))] → W p l e rmX11_finds s m args below meth c H locs 0 0 (QV X shM nM s args below out) (F0 m 103 ls [])) : ∀ (N : Nat), ∀ (x1 : Int) (x2 : Int) (S : S2) (H : Heap) (locs : List Loc) (ls : Array Slot), f_X11_finds_16 k103 N x1 x2 S = some out → WH X shM nM s S H locs → lv_has ls 3 [(0, .ref (X.2.2 0)), (1, .int (iz x1)), (2, .int (iz x2))] → W p l e rmX11_finds s m args below meth c H locs 0 0 (QV X shM nM s args below out) (F0 m 16 ls []) := by
  intro N
  induction N with
  | zero => intro x1 x2 S H locs ls hf hw hl; cases hf
  | succ N ih =>
    intro x1 x2 S H locs ls hf hw hl
    rw [f_X11_finds_16.eq_2] at hf
    refine lv_iload_n C.1.1 C.1.2.1 dX11_finds_16 rfl (lv_at hl 2 rfl) ?_
    refine r_iconst (v := 1) C dX11_finds_17 ?_
    refine r_icmp_le C (tgt := 103) dX11_finds_18 (by decide) hf (fun hf => ?_) (fun hf => ?_)
    · exact hk103 x1 x2 S H locs ls hf hw (lv_sub hl [0, 1, 2] rfl)
    · refine lv_aload_n C.1.1 C.1.2.1 dX11_finds_21 rfl (lv_at hl 0 rfl) ?_
      refine lv_aload_n C.1.1 C.1.2.1 dX11_finds_22 rfl (lv_at hl 0 rfl) ?_
      refine r_getR (k := 36) C hw shM_0 ltM_0 cO11 rfl (by decide) tw5_180 rfl dX11_finds_23 ?_
      refine lv_iload_n C.1.1 C.1.2.1 dX11_finds_26 rfl (lv_at hl 2 rfl) ?_
      refine r_iconst (v := 1) C dX11_finds_27 ?_
      refine r_isub C dX11_finds_28 ?_
      refine r_iald C hw shM_18 ltM_18 (Nat.le_of_ble_eq_true rfl) dX11_finds_29 hf (fun v29 hf => ?_)
      refine r_callI (As := [.int (iz v29)]) (rest := []) (rm := rmX11_lifeOf) C hw shM_0 ltM_0 cO11 tw7_33 tw7_35 tp_78 tw1_12 tw7_36 hd_X11_lifeOf rfl ⟨⟨rfl, rfl⟩, Nat.le_of_ble_eq_true rfl, Nat.le_of_ble_eq_true rfl⟩ hl.1 rfl (Nat.le_of_ble_eq_true rfl) dX11_finds_30 hf (fun o ho => c_X11_lifeOf l X hinj hZ N S v29 o ho) (fun v30 S30 H locs hf hw => ?_)
      refine lv_aload_n C.1.1 C.1.2.1 dX11_finds_33 rfl (lv_at hl 0 rfl) ?_
      refine lv_iload_n C.1.1 C.1.2.1 dX11_finds_34 rfl (lv_at hl 1 rfl) ?_
      refine r_callI (As := [.int (iz x1)]) (rest := [.int (iz v30)]) (rm := rmX11_lifeOf) C hw shM_0 ltM_0 cO11 tw7_33 tw7_35 tp_78 tw1_12 tw7_36 hd_X11_lifeOf rfl ⟨⟨rfl, rfl⟩, Nat.le_of_ble_eq_true rfl, Nat.le_of_ble_eq_true rfl⟩ hl.1 rfl (Nat.le_of_ble_eq_true rfl) dX11_finds_35 hf (fun o ho => c_X11_lifeOf l X hinj hZ N S30 x1 o ho) (fun v35 S35 H locs hf hw => ?_)
      refine r_icmp_lt C (tgt := 83) dX11_finds_38 (by decide) hf (fun hf => ?_) (fun hf => ?_)
      · exact (w_X11_finds_83 l hinj hZ C out (f_X11_finds_16 k103 N) ih N) x1 x2 S35 H locs ls hf hw (lv_sub hl [0, 1, 2] rfl)
      · refine lv_aload_n C.1.1 C.1.2.1 dX11_finds_41 rfl (lv_at hl 0 rfl) ?_
        refine lv_aload_n C.1.1 C.1.2.1 dX11_finds_42 rfl (lv_at hl 0 rfl) ?_
        refine r_getR (k := 36) C hw shM_0 ltM_0 cO11 rfl (by decide) tw5_180 rfl dX11_finds_43 ?_
        refine lv_iload_n C.1.1 C.1.2.1 dX11_finds_46 rfl (lv_at hl 2 rfl) ?_
        refine r_iconst (v := 1) C dX11_finds_47 ?_
        refine r_isub C dX11_finds_48 ?_
        refine r_iald C hw shM_18 ltM_18 (Nat.le_of_ble_eq_true rfl) dX11_finds_49 hf (fun v49 hf => ?_)
        refine r_callI (As := [.int (iz v49)]) (rest := []) (rm := rmX11_lifeOf) C hw shM_0 ltM_0 cO11 tw7_33 tw7_35 tp_78 tw1_12 tw7_36 hd_X11_lifeOf rfl ⟨⟨rfl, rfl⟩, Nat.le_of_ble_eq_true rfl, Nat.le_of_ble_eq_true rfl⟩ hl.1 rfl (Nat.le_of_ble_eq_true rfl) dX11_finds_50 hf (fun o ho => c_X11_lifeOf l X hinj hZ N S35 v49 o ho) (fun v50 S50 H locs hf hw => ?_)
        refine lv_aload_n C.1.1 C.1.2.1 dX11_finds_53 rfl (lv_at hl 0 rfl) ?_
        refine lv_iload_n C.1.1 C.1.2.1 dX11_finds_54 rfl (lv_at hl 1 rfl) ?_
        refine r_callI (As := [.int (iz x1)]) (rest := [.int (iz v50)]) (rm := rmX11_lifeOf) C hw shM_0 ltM_0 cO11 tw7_33 tw7_35 tp_78 tw1_12 tw7_36 hd_X11_lifeOf rfl ⟨⟨rfl, rfl⟩, Nat.le_of_ble_eq_true rfl, Nat.le_of_ble_eq_true rfl⟩ hl.1 rfl (Nat.le_of_ble_eq_true rfl) dX11_finds_55 hf (fun o ho => c_X11_lifeOf l X hinj hZ N S50 x1 o ho) (fun v55 S55 H locs hf hw => ?_)
        refine r_icmp_ne C (tgt := 103) dX11_finds_58 (by decide) hf (fun hf => ?_) (fun hf => ?_)
        · exact hk103 x1 x2 S55 H locs ls hf hw (lv_sub hl [0, 1, 2] rfl)
        · refine lv_aload_n C.1.1 C.1.2.1 dX11_finds_61 rfl (lv_at hl 0 rfl) ?_
          refine r_getR (k := 30) C hw shM_0 ltM_0 cO11 rfl (by decide) tw5_174 rfl dX11_finds_62 ?_
          refine lv_aload_n C.1.1 C.1.2.1 dX11_finds_65 rfl (lv_at hl 0 rfl) ?_
          refine r_getR (k := 36) C hw shM_0 ltM_0 cO11 rfl (by decide) tw5_180 rfl dX11_finds_66 ?_
          refine lv_iload_n C.1.1 C.1.2.1 dX11_finds_69 rfl (lv_at hl 2 rfl) ?_
          refine r_iconst (v := 1) C dX11_finds_70 ?_
          refine r_isub C dX11_finds_71 ?_
          refine r_iald C hw shM_18 ltM_18 (Nat.le_of_ble_eq_true rfl) dX11_finds_72 hf (fun v72 hf => ?_)
          refine r_iald C hw shM_13 ltM_13 (Nat.le_of_ble_eq_true rfl) dX11_finds_73 hf (fun v73 hf => ?_)
          refine lv_aload_n C.1.1 C.1.2.1 dX11_finds_74 rfl (lv_at hl 0 rfl) ?_
          refine r_getR (k := 30) C hw shM_0 ltM_0 cO11 rfl (by decide) tw5_174 rfl dX11_finds_75 ?_
          refine lv_iload_n C.1.1 C.1.2.1 dX11_finds_78 rfl (lv_at hl 1 rfl) ?_
          refine r_iald C hw shM_13 ltM_13 (Nat.le_of_ble_eq_true rfl) dX11_finds_79 hf (fun v79 hf => ?_)
          refine r_icmp_le C (tgt := 103) dX11_finds_80 (by decide) hf (fun hf => ?_) (fun hf => ?_)
          · exact hk103 x1 x2 S55 H locs ls hf hw (lv_sub hl [0, 1, 2] rfl)
          · exact (w_X11_finds_83 l hinj hZ C out (f_X11_finds_16 k103 N) ih N) x1 x2 S55 H locs ls hf hw (lv_sub hl [0, 1, 2] rfl)
set_option maxRecDepth 100000 in
set_option maxHeartbeats 4000000 in
theorem w_X11_finds_6 {p : Program} (l : Launch) {e : Env} {s : State} {m : MethodId} {args : Array Value} {below : List Frame} {meth : Method} {c : Code} {X : XT} (hinj : XInj X nM) (hZ : ZOK (Zm X)) (C : CX p s m args meth c cX11_finds 3 RX11 none X nM (Zm X)) (out : S2) (k116 : S2 → Option (S2)) (hk116 : ∀ (S : S2) (H : Heap) (locs : List Loc) (ls : Array Slot), k116 S = some out → WH X shM nM s S H locs → lv_has ls 3 [(0, .ref (X.2.2 0))] → W p l e rmX11_finds s m args below meth c H locs 0 0 (QV X shM nM s args below out) (F0 m 116 ls [])) : ∀ (N : Nat), ∀ (x1 : Int) (S : S2) (H : Heap) (locs : List Loc) (ls : Array Slot), f_X11_finds_6 k116 N x1 S = some out → WH X shM nM s S H locs → lv_has ls 3 [(0, .ref (X.2.2 0)), (1, .int (iz x1))] → W p l e rmX11_finds s m args below meth c H locs 0 0 (QV X shM nM s args below out) (F0 m 6 ls []) := by
  intro N
  induction N with
  | zero => intro x1 S H locs ls hf hw hl; cases hf
  | succ N ih =>
    intro x1 S H locs ls hf hw hl
    rw [f_X11_finds_6.eq_2] at hf
    refine lv_iload_n C.1.1 C.1.2.1 dX11_finds_6 rfl (lv_at hl 1 rfl) ?_
    refine lv_aload_n C.1.1 C.1.2.1 dX11_finds_7 rfl (lv_at hl 0 rfl) ?_
    refine r_getI (k := 35) C hw shM_0 ltM_0 cO11 rfl (by decide) tw5_179 rfl dX11_finds_8 hf (fun v8 hf => ?_)
    refine r_icmp_ge C (tgt := 116) dX11_finds_11 (by decide) hf (fun hf => ?_) (fun hf => ?_)
    · exact hk116 S H locs ls hf hw (lv_sub hl [0] rfl)
    · refine lv_iload_n C.1.1 C.1.2.1 dX11_finds_14 rfl (lv_at hl 1 rfl) ?_
      refine lv_istore_n (lv' := [(2, .int (iz x1)), (0, .ref (X.2.2 0)), (1, .int (iz x1))]) C.1.1 C.1.2.1 dX11_finds_15 rfl hl (by decide) rfl (fun ls hl => ?_)
      exact (w_X11_finds_16 l hinj hZ C out (f_X11_finds_103 (f_X11_finds_6 k116 N) N) (w_X11_finds_103 l hinj hZ C out (f_X11_finds_6 k116 N) ih N) N) x1 x1 S H locs ls hf hw (lv_sub hl [1, 2, 0] rfl)
set_option maxRecDepth 100000 in
set_option maxHeartbeats 4000000 in
theorem c_X11_finds (l : Launch) (X : XT) (hinj : XInj X nM) (hZ : ZOK (Zm X)) (N : Nat) (S : S2) (out : S2) (hf : f_X11_finds N S = some out) : MV l X shM nM (Zm X) yX11_finds cX11_finds 3 none rmX11_finds [.ref (X.2.2 0)] S out := by
  refine met_V (own := RX11) (by decide) rfl hinj hZ (Nat.le_of_ble_eq_true rfl) (fun p e s m args below meth c C ls H locs hw hl => ?_)
  unfold f_X11_finds at hf
  have hl : lv_has ls 3 [(0, .ref (X.2.2 0))] := hl
  refine lv_aload_n C.1.1 C.1.2.1 dX11_finds_0 rfl (lv_at hl 0 rfl) ?_
  refine r_callV (As := []) (rest := []) (rm := rmX11_lets) C hw shM_0 ltM_0 cO11 tw7_5 tw7_7 tp_71 tw1_12 tw7_8 hd_X11_lets rfl ⟨⟨rfl, rfl⟩, Nat.le_of_ble_eq_true rfl, Nat.le_of_ble_eq_true rfl⟩ hl.1 rfl (Nat.le_of_ble_eq_true rfl) dX11_finds_1 hf (fun o ho => c_X11_lets l X hinj hZ N S o ho) (fun S1 H locs hf hw => ?_)
  refine r_iconst (v := 0) C dX11_finds_4 ?_
  refine lv_istore_n (lv' := [(1, .int (iz 0)), (0, .ref (X.2.2 0))]) C.1.1 C.1.2.1 dX11_finds_5 rfl hl (by decide) rfl (fun ls hl => ?_)
  exact (w_X11_finds_6 l hinj hZ C out (f_X11_finds_116 N) (w_X11_finds_116 l hinj hZ C out N) N) 0 S1 H locs ls hf hw (lv_sub hl [1, 0] rfl)
def f_X11_flattens_161 (N : Nat) (S : S2) : Option (Int × S2) := bI (f_X11_fell N S) fun v162 S162 => rI v162 S162
def f_X11_flattens_155 (k13 : Int → S2 → Option (Int × S2)) (N : Nat) (x1 : Int) (S : S2) : Option (Int × S2) := k13 (x1 + 1) S
def f_X11_flattens_148 (k103 : Int → Int → Int → Int → S2 → Option (Int × S2)) (N : Nat) (x1 : Int) (x2 : Int) (x5 : Int) (x6 : Int) (y0 : Int) (y1 : Int) (S : S2) : Option (Int × S2) := sI S 8 231 y1 y0 fun S148 => k103 x1 x2 x5 (x6 + 1) S148
def f_X11_flattens_103 (k155 : Int → S2 → Option (Int × S2)) : Nat → Int → Int → Int → Int → S2 → Option (Int × S2)
  | 0, _, _, _, _, _ => none
  | N + 1, x1, x2, x5, x6, S => cI x6 x5 (if x5 < x6 then k155 x1 S else aI S 22 48 x6 fun v122 => cI v122 x2 (if v122 ≤ x2 then aI S 8 231 x6 fun v147 => (f_X11_flattens_148 (f_X11_flattens_103 k155 N) N) x1 x2 x5 x6 v147 x6 S else aI S 8 231 x6 fun v133 => mnI v133 x2 fun v135 => (f_X11_flattens_148 (f_X11_flattens_103 k155 N) N) x1 x2 x5 x6 v135 x6 S))
def f_X11_flattens_99 (k13 : Int → S2 → Option (Int × S2)) (N : Nat) (x1 : Int) (x2 : Int) (x4 : Int) (x5 : Int) (S : S2) : Option (Int × S2) := (f_X11_flattens_103 (f_X11_flattens_155 k13 N) N) x1 x2 x5 x4 S
def f_X11_flattens_69 (k99 : Int → Int → Int → Int → S2 → Option (Int × S2)) : Nat → Int → Int → Int → Int → S2 → Option (Int × S2)
  | 0, _, _, _, _, _ => none
  | N + 1, x1, x2, x4, x5, S => bI (f_X11_many N S) fun v72 S72 => cI x5 (v72 - 1) (if (v72 - 1) ≤ x5 then k99 x1 x2 x4 x5 S72 else aI S72 22 48 (x5 + 1) fun v88 => cI v88 x2 (if v88 ≤ x2 then k99 x1 x2 x4 x5 S72 else (f_X11_flattens_69 k99 N) x1 x2 x4 (x5 + 1) S72))
def f_X11_flattens_45 (k69 : Int → Int → Int → Int → S2 → Option (Int × S2)) : Nat → Int → Int → Int → Int → S2 → Option (Int × S2)
  | 0, _, _, _, _, _ => none
  | N + 1, x1, x2, x4, x5, S => cI x4 0 (if x4 ≤ 0 then k69 x1 x2 x4 x5 S else aI S 22 48 (x4 - 1) fun v58 => cI v58 x2 (if v58 ≤ x2 then k69 x1 x2 x4 x5 S else (f_X11_flattens_45 k69 N) x1 x2 (x4 + (-1)) x5 S))
def f_X11_flattens_13 (k161 : S2 → Option (Int × S2)) : Nat → Int → S2 → Option (Int × S2)
  | 0, _, _ => none
  | N + 1, x1, S => gI S 0 35 fun v15 => cI x1 v15 (if v15 ≤ x1 then k161 S else aI S 18 48 x1 fun v30 => aI S 15 48 v30 fun v31 => bI (f_X11_placeOf N S x1) fun v35 S35 => (f_X11_flattens_45 (f_X11_flattens_69 (f_X11_flattens_99 (f_X11_flattens_13 k161 N) N) N) N) x1 v31 v35 v35 S35)
def f_X11_flattens (N : Nat) (S : S2) : Option (Int × S2) := bV (f_X11_finds N S) fun S1 => bV (f_X11_keepWas N S1) fun S5 => gI S5 0 38 fun v9 => (f_X11_flattens_13 (f_X11_flattens_161 N) N) v9 S5
abbrev rmX11_flattens : Room := { frames := 4, cells := 0, slots := 0, locals := 93 }
theorem hd_X11_flattens : yX11_flattens.cls ≠ "java/lang/invoke/MethodHandle" ∧ yX11_flattens.cls ≠ "java/lang/invoke/VarHandle" ∧ (parseMethodDescriptor yX11_flattens.desc).map (fun d => d.parameters.length) = some 0 := by decide +kernel
set_option maxRecDepth 100000 in
set_option maxHeartbeats 4000000 in
theorem w_X11_flattens_161 {p : Program} (l : Launch) {e : Env} {s : State} {m : MethodId} {args : Array Value} {below : List Frame} {meth : Method} {c : Code} {X : XT} (hinj : XInj X nM) (hZ : ZOK (Zm X)) (C : CX p s m args meth c cX11_flattens 7 RX11 (some .int) X nM (Zm X)) (out : Int × S2) : ∀ (N : Nat), ∀ (S : S2) (H : Heap) (locs : List Loc) (ls : Array Slot), f_X11_flattens_161 N S = some out → WH X shM nM s S H locs → lv_has ls 7 [(0, .ref (X.2.2 0))] → W p l e rmX11_flattens s m args below meth c H locs 0 0 (QI X shM nM s args below out) (F0 m 161 ls []) := by
  intro N S H locs ls hf hw hl
  unfold f_X11_flattens_161 at hf
  refine lv_aload_n C.1.1 C.1.2.1 dX11_flattens_161 rfl (lv_at hl 0 rfl) ?_
  refine r_callI (As := []) (rest := []) (rm := rmX11_fell) C hw shM_0 ltM_0 cO11 tw7_52 tw7_54 tp_82 tw1_12 tw7_55 hd_X11_fell rfl ⟨⟨rfl, rfl⟩, Nat.le_of_ble_eq_true rfl, Nat.le_of_ble_eq_true rfl⟩ hl.1 rfl (Nat.le_of_ble_eq_true rfl) dX11_flattens_162 hf (fun o ho => c_X11_fell l X hinj hZ N S o ho) (fun v162 S162 H locs hf hw => ?_)
  exact r_retI C hw dX11_flattens_165 hf
set_option maxRecDepth 100000 in
set_option maxHeartbeats 4000000 in
theorem w_X11_flattens_155 {p : Program} (l : Launch) {e : Env} {s : State} {m : MethodId} {args : Array Value} {below : List Frame} {meth : Method} {c : Code} {X : XT} (hinj : XInj X nM) (hZ : ZOK (Zm X)) (C : CX p s m args meth c cX11_flattens 7 RX11 (some .int) X nM (Zm X)) (out : Int × S2) (k13 : Int → S2 → Option (Int × S2)) (hk13 : ∀ (x1 : Int) (S : S2) (H : Heap) (locs : List Loc) (ls : Array Slot), k13 x1 S = some out → WH X shM nM s S H locs → lv_has ls 7 [(0, .ref (X.2.2 0)), (1, .int (iz x1))] → W p l e rmX11_flattens s m args below meth c H locs 0 0 (QI X shM nM s args below out) (F0 m 13 ls [])) : ∀ (N : Nat), ∀ (x1 : Int) (S : S2) (H : Heap) (locs : List Loc) (ls : Array Slot), f_X11_flattens_155 k13 N x1 S = some out → WH X shM nM s S H locs → lv_has ls 7 [(0, .ref (X.2.2 0)), (1, .int (iz x1))] → W p l e rmX11_flattens s m args below meth c H locs 0 0 (QI X shM nM s args below out) (F0 m 155 ls []) := by
  intro N x1 S H locs ls hf hw hl
  unfold f_X11_flattens_155 at hf
  refine lv_iinc (v := iz (x1 + 1)) (lv' := [(1, .int (iz (x1 + 1))), (0, .ref (X.2.2 0))]) C.1.1 C.1.2.1 dX11_flattens_155 hl (k := 1) rfl (iz_add _ _) (by decide) rfl (fun ls hl => ?_)
  refine lv_goto (tgt := 13) C.1.1 C.1.2.1 dX11_flattens_158 (by decide) ?_
  exact hk13 (x1 + 1) S H locs ls hf hw (lv_sub hl [1, 0] rfl)
set_option maxRecDepth 100000 in
set_option maxHeartbeats 4000000 in
theorem w_X11_flattens_148 {p : Program} (l : Launch) {e : Env} {s : State} {m : MethodId} {args : Array Value} {below : List Frame} {meth : Method} {c : Code} {X : XT} (hinj : XInj X nM) (hZ : ZOK (Zm X)) (C : CX p s m args meth c cX11_flattens 7 RX11 (some .int) X nM (Zm X)) (out : Int × S2) (k103 : Int → Int → Int → Int → S2 → Option (Int × S2)) (hk103 : ∀ (x1 : Int) (x2 : Int) (x5 : Int) (x6 : Int) (S : S2) (H : Heap) (locs : List Loc) (ls : Array Slot), k103 x1 x2 x5 x6 S = some out → WH X shM nM s S H locs → lv_has ls 7 [(0, .ref (X.2.2 0)), (1, .int (iz x1)), (2, .int (iz x2)), (5, .int (iz x5)), (6, .int (iz x6))] → W p l e rmX11_flattens s m args below meth c H locs 0 0 (QI X shM nM s args below out) (F0 m 103 ls [])) : ∀ (N : Nat), ∀ (x1 : Int) (x2 : Int) (x5 : Int) (x6 : Int) (y0 : Int) (y1 : Int) (S : S2) (H : Heap) (locs : List Loc) (ls : Array Slot), f_X11_flattens_148 k103 N x1 x2 x5 x6 y0 y1 S = some out → WH X shM nM s S H locs → lv_has ls 7 [(0, .ref (X.2.2 0)), (1, .int (iz x1)), (2, .int (iz x2)), (5, .int (iz x5)), (6, .int (iz x6))] → W p l e rmX11_flattens s m args below meth c H locs 0 0 (QI X shM nM s args below out) (F0 m 148 ls [.int (iz y0), .int (iz y1), .ref (X.2.2 8)]) := by
  intro N x1 x2 x5 x6 y0 y1 S H locs ls hf hw hl
  unfold f_X11_flattens_148 at hf
  refine r_iast C hw shM_8 ltM_8 (Nat.le_of_ble_eq_true rfl) dX11_flattens_148 hf (fun S148 H locs hf hw => ?_)
  refine lv_iinc (v := iz (x6 + 1)) (lv' := [(6, .int (iz (x6 + 1))), (0, .ref (X.2.2 0)), (1, .int (iz x1)), (2, .int (iz x2)), (5, .int (iz x5))]) C.1.1 C.1.2.1 dX11_flattens_149 hl (k := 4) rfl (iz_add _ _) (by decide) rfl (fun ls hl => ?_)
  refine lv_goto (tgt := 103) C.1.1 C.1.2.1 dX11_flattens_152 (by decide) ?_
  exact hk103 x1 x2 x5 (x6 + 1) S148 H locs ls hf hw (lv_sub hl [1, 2, 3, 4, 0] rfl)
set_option maxRecDepth 100000 in
set_option maxHeartbeats 4000000 in
theorem w_X11_flattens_103 {p : Program} (l : Launch) {e : Env} {s : State} {m : MethodId} {args : Array Value} {below : List Frame} {meth : Method} {c : Code} {X : XT} (hinj : XInj X nM) (hZ : ZOK (Zm X)) (C : CX p s m args meth c cX11_flattens 7 RX11 (some .int) X nM (Zm X)) (out : Int × S2) (k155 : Int → S2 → Option (Int × S2)) (hk155 : ∀ (x1 : Int) (S : S2) (H : Heap) (locs : List Loc) (ls : Array Slot), k155 x1 S = some out → WH X shM nM s S H locs → lv_has ls 7 [(0, .ref (X.2.2 0)), (1, .int (iz x1))] → W p l e rmX11_flattens s m args below meth c H locs 0 0 (QI X shM nM s args below out) (F0 m 155 ls [])) : ∀ (N : Nat), ∀ (x1 : Int) (x2 : Int) (x5 : Int) (x6 : Int) (S : S2) (H : Heap) (locs : List Loc) (ls : Array Slot), f_X11_flattens_103 k155 N x1 x2 x5 x6 S = some out → WH X shM nM s S H locs → lv_has ls 7 [(0, .ref (X.2.2 0)), (1, .int (iz x1)), (2, .int (iz x2)), (5, .int (iz x5)), (6, .int (iz x6))] → W p l e rmX11_flattens s m args below meth c H locs 0 0 (QI X shM nM s args below out) (F0 m 103 ls []) := by
  intro N
  induction N with
  | zero => intro x1 x2 x5 x6 S H locs ls hf hw hl; cases hf
  | succ N ih =>
    intro x1 x2 x5 x6 S H locs ls hf hw hl
    rw [f_X11_flattens_103.eq_2] at hf
    refine lv_iload C.1.1 C.1.2.1 dX11_flattens_103 (lv_at hl 4 rfl) ?_
    refine lv_iload C.1.1 C.1.2.1 dX11_flattens_105 (lv_at hl 3 rfl) ?_
    refine r_icmp_gt C (tgt := 155) dX11_flattens_107 (by decide) hf (fun hf => ?_) (fun hf => ?_)
    · exact hk155 x1 S H locs ls hf hw (lv_sub hl [0, 1] rfl)
    · refine lv_aload_n C.1.1 C.1.2.1 dX11_flattens_110 rfl (lv_at hl 0 rfl) ?_
      refine r_getR (k := 22) C hw shM_0 ltM_0 cO11 rfl (by decide) tw5_166 rfl dX11_flattens_111 ?_
      refine lv_iload C.1.1 C.1.2.1 dX11_flattens_114 (lv_at hl 4 rfl) ?_
      refine lv_aload_n C.1.1 C.1.2.1 dX11_flattens_116 rfl (lv_at hl 0 rfl) ?_
      refine r_getR (k := 42) C hw shM_0 ltM_0 cO11 rfl (by decide) tw5_186 rfl dX11_flattens_117 ?_
      refine lv_iload C.1.1 C.1.2.1 dX11_flattens_120 (lv_at hl 4 rfl) ?_
      refine r_iald C hw shM_22 ltM_22 (Nat.le_of_ble_eq_true rfl) dX11_flattens_122 hf (fun v122 hf => ?_)
      refine lv_iload_n C.1.1 C.1.2.1 dX11_flattens_123 rfl (lv_at hl 2 rfl) ?_
      refine r_icmp_le C (tgt := 141) dX11_flattens_124 (by decide) hf (fun hf => ?_) (fun hf => ?_)
      · refine lv_aload_n C.1.1 C.1.2.1 dX11_flattens_141 rfl (lv_at hl 0 rfl) ?_
        refine r_getR (k := 22) C hw shM_0 ltM_0 cO11 rfl (by decide) tw5_166 rfl dX11_flattens_142 ?_
        refine lv_iload C.1.1 C.1.2.1 dX11_flattens_145 (lv_at hl 4 rfl) ?_
        refine r_iald C hw shM_8 ltM_8 (Nat.le_of_ble_eq_true rfl) dX11_flattens_147 hf (fun v147 hf => ?_)
        exact (w_X11_flattens_148 l hinj hZ C out (f_X11_flattens_103 k155 N) ih N) x1 x2 x5 x6 v147 x6 S H locs ls hf hw (lv_sub hl [0, 1, 2, 3, 4] rfl)
      · refine lv_aload_n C.1.1 C.1.2.1 dX11_flattens_127 rfl (lv_at hl 0 rfl) ?_
        refine r_getR (k := 22) C hw shM_0 ltM_0 cO11 rfl (by decide) tw5_166 rfl dX11_flattens_128 ?_
        refine lv_iload C.1.1 C.1.2.1 dX11_flattens_131 (lv_at hl 4 rfl) ?_
        refine r_iald C hw shM_8 ltM_8 (Nat.le_of_ble_eq_true rfl) dX11_flattens_133 hf (fun v133 hf => ?_)
        refine lv_iload_n C.1.1 C.1.2.1 dX11_flattens_134 rfl (lv_at hl 2 rfl) ?_
        refine r_min C tw6_233 tw3_83 tw1_18 tw3_84 hl.1 (Nat.le_of_ble_eq_true rfl) (Nat.le_of_ble_eq_true rfl) dX11_flattens_135 hf (fun v135 hf => ?_)
        refine lv_goto (tgt := 148) C.1.1 C.1.2.1 dX11_flattens_138 (by decide) ?_
        exact (w_X11_flattens_148 l hinj hZ C out (f_X11_flattens_103 k155 N) ih N) x1 x2 x5 x6 v135 x6 S H locs ls hf hw (lv_sub hl [0, 1, 2, 3, 4] rfl)
set_option maxRecDepth 100000 in
set_option maxHeartbeats 4000000 in
theorem w_X11_flattens_99 {p : Program} (l : Launch) {e : Env} {s : State} {m : MethodId} {args : Array Value} {below : List Frame} {meth : Method} {c : Code} {X : XT} (hinj : XInj X nM) (hZ : ZOK (Zm X)) (C : CX p s m args meth c cX11_flattens 7 RX11 (some .int) X nM (Zm X)) (out : Int × S2) (k13 : Int → S2 → Option (Int × S2)) (hk13 : ∀ (x1 : Int) (S : S2) (H : Heap) (locs : List Loc) (ls : Array Slot), k13 x1 S = some out → WH X shM nM s S H locs → lv_has ls 7 [(0, .ref (X.2.2 0)), (1, .int (iz x1))] → W p l e rmX11_flattens s m args below meth c H locs 0 0 (QI X shM nM s args below out) (F0 m 13 ls [])) : ∀ (N : Nat), ∀ (x1 : Int) (x2 : Int) (x4 : Int) (x5 : Int) (S : S2) (H : Heap) (locs : List Loc) (ls : Array Slot), f_X11_flattens_99 k13 N x1 x2 x4 x5 S = some out → WH X shM nM s S H locs → lv_has ls 7 [(0, .ref (X.2.2 0)), (1, .int (iz x1)), (2, .int (iz x2)), (4, .int (iz x4)), (5, .int (iz x5))] → W p l e rmX11_flattens s m args below meth c H locs 0 0 (QI X shM nM s args below out) (F0 m 99 ls []) := by
  intro N x1 x2 x4 x5 S H locs ls hf hw hl
  unfold f_X11_flattens_99 at hf
  refine lv_iload C.1.1 C.1.2.1 dX11_flattens_99 (lv_at hl 3 rfl) ?_
  refine lv_istore (lv' := [(6, .int (iz x4)), (0, .ref (X.2.2 0)), (1, .int (iz x1)), (2, .int (iz x2)), (4, .int (iz x4)), (5, .int (iz x5))]) C.1.1 C.1.2.1 dX11_flattens_101 hl (by decide) rfl (fun ls hl => ?_)
  exact (w_X11_flattens_103 l hinj hZ C out (f_X11_flattens_155 k13 N) (w_X11_flattens_155 l hinj hZ C out k13 hk13 N) N) x1 x2 x5 x4 S H locs ls hf hw (lv_sub hl [1, 2, 3, 5, 0] rfl)
set_option maxRecDepth 100000 in
set_option maxHeartbeats 4000000 in
theorem w_X11_flattens_69 {p : Program} (l : Launch) {e : Env} {s : State} {m : MethodId} {args : Array Value} {below : List Frame} {meth : Method} {c : Code} {X : XT} (hinj : XInj X nM) (hZ : ZOK (Zm X)) (C : CX p s m args meth c cX11_flattens 7 RX11 (some .int) X nM (Zm X)) (out : Int × S2) (k99 : Int → Int → Int → Int → S2 → Option (Int × S2)) (hk99 : ∀ (x1 : Int) (x2 : Int) (x4 : Int) (x5 : Int) (S : S2) (H : Heap) (locs : List Loc) (ls : Array Slot), k99 x1 x2 x4 x5 S = some out → WH X shM nM s S H locs → lv_has ls 7 [(0, .ref (X.2.2 0)), (1, .int (iz x1)), (2, .int (iz x2)), (4, .int (iz x4)), (5, .int (iz x5))] → W p l e rmX11_flattens s m args below meth c H locs 0 0 (QI X shM nM s args below out) (F0 m 99 ls [])) : ∀ (N : Nat), ∀ (x1 : Int) (x2 : Int) (x4 : Int) (x5 : Int) (S : S2) (H : Heap) (locs : List Loc) (ls : Array Slot), f_X11_flattens_69 k99 N x1 x2 x4 x5 S = some out → WH X shM nM s S H locs → lv_has ls 7 [(0, .ref (X.2.2 0)), (1, .int (iz x1)), (2, .int (iz x2)), (4, .int (iz x4)), (5, .int (iz x5))] → W p l e rmX11_flattens s m args below meth c H locs 0 0 (QI X shM nM s args below out) (F0 m 69 ls []) := by
  intro N
  induction N with
  | zero => intro x1 x2 x4 x5 S H locs ls hf hw hl; cases hf
  | succ N ih =>
    intro x1 x2 x4 x5 S H locs ls hf hw hl
    rw [f_X11_flattens_69.eq_2] at hf
    refine lv_iload C.1.1 C.1.2.1 dX11_flattens_69 (lv_at hl 4 rfl) ?_
    refine lv_aload_n C.1.1 C.1.2.1 dX11_flattens_71 rfl (lv_at hl 0 rfl) ?_
    refine r_callI (As := []) (rest := [.int (iz x5)]) (rm := rmX11_many) C hw shM_0 ltM_0 cO11 tw6_192 tw6_194 tp_60 tw1_12 tw6_195 hd_X11_many rfl ⟨⟨rfl, rfl⟩, Nat.le_of_ble_eq_true rfl, Nat.le_of_ble_eq_true rfl⟩ hl.1 rfl (Nat.le_of_ble_eq_true rfl) dX11_flattens_72 hf (fun o ho => c_X11_many l X hinj hZ N S o ho) (fun v72 S72 H locs hf hw => ?_)
    refine r_iconst (v := 1) C dX11_flattens_75 ?_
    refine r_isub C dX11_flattens_76 ?_
    refine r_icmp_ge C (tgt := 99) dX11_flattens_77 (by decide) hf (fun hf => ?_) (fun hf => ?_)
    · exact hk99 x1 x2 x4 x5 S72 H locs ls hf hw (lv_sub hl [0, 1, 2, 3, 4] rfl)
    · refine lv_aload_n C.1.1 C.1.2.1 dX11_flattens_80 rfl (lv_at hl 0 rfl) ?_
      refine r_getR (k := 42) C hw shM_0 ltM_0 cO11 rfl (by decide) tw5_186 rfl dX11_flattens_81 ?_
      refine lv_iload C.1.1 C.1.2.1 dX11_flattens_84 (lv_at hl 4 rfl) ?_
      refine r_iconst (v := 1) C dX11_flattens_86 ?_
      refine r_iadd C dX11_flattens_87 ?_
      refine r_iald C hw shM_22 ltM_22 (Nat.le_of_ble_eq_true rfl) dX11_flattens_88 hf (fun v88 hf => ?_)
      refine lv_iload_n C.1.1 C.1.2.1 dX11_flattens_89 rfl (lv_at hl 2 rfl) ?_
      refine r_icmp_le C (tgt := 99) dX11_flattens_90 (by decide) hf (fun hf => ?_) (fun hf => ?_)
      · exact hk99 x1 x2 x4 x5 S72 H locs ls hf hw (lv_sub hl [0, 1, 2, 3, 4] rfl)
      · refine lv_iinc (v := iz (x5 + 1)) (lv' := [(5, .int (iz (x5 + 1))), (0, .ref (X.2.2 0)), (1, .int (iz x1)), (2, .int (iz x2)), (4, .int (iz x4))]) C.1.1 C.1.2.1 dX11_flattens_93 hl (k := 4) rfl (iz_add _ _) (by decide) rfl (fun ls hl => ?_)
        refine lv_goto (tgt := 69) C.1.1 C.1.2.1 dX11_flattens_96 (by decide) ?_
        exact ih x1 x2 x4 (x5 + 1) S72 H locs ls hf hw (lv_sub hl [1, 2, 3, 4, 0] rfl)
set_option maxRecDepth 100000 in
set_option maxHeartbeats 4000000 in
theorem w_X11_flattens_45 {p : Program} (l : Launch) {e : Env} {s : State} {m : MethodId} {args : Array Value} {below : List Frame} {meth : Method} {c : Code} {X : XT} (hinj : XInj X nM) (hZ : ZOK (Zm X)) (C : CX p s m args meth c cX11_flattens 7 RX11 (some .int) X nM (Zm X)) (out : Int × S2) (k69 : Int → Int → Int → Int → S2 → Option (Int × S2)) (hk69 : ∀ (x1 : Int) (x2 : Int) (x4 : Int) (x5 : Int) (S : S2) (H : Heap) (locs : List Loc) (ls : Array Slot), k69 x1 x2 x4 x5 S = some out → WH X shM nM s S H locs → lv_has ls 7 [(0, .ref (X.2.2 0)), (1, .int (iz x1)), (2, .int (iz x2)), (4, .int (iz x4)), (5, .int (iz x5))] → W p l e rmX11_flattens s m args below meth c H locs 0 0 (QI X shM nM s args below out) (F0 m 69 ls [])) : ∀ (N : Nat), ∀ (x1 : Int) (x2 : Int) (x4 : Int) (x5 : Int) (S : S2) (H : Heap) (locs : List Loc) (ls : Array Slot), f_X11_flattens_45 k69 N x1 x2 x4 x5 S = some out → WH X shM nM s S H locs → lv_has ls 7 [(0, .ref (X.2.2 0)), (1, .int (iz x1)), (2, .int (iz x2)), (4, .int (iz x4)), (5, .int (iz x5))] → W p l e rmX11_flattens s m args below meth c H locs 0 0 (QI X shM nM s args below out) (F0 m 45 ls []) := by
  intro N
  induction N with
  | zero => intro x1 x2 x4 x5 S H locs ls hf hw hl; cases hf
  | succ N ih =>
    intro x1 x2 x4 x5 S H locs ls hf hw hl
    rw [f_X11_flattens_45.eq_2] at hf
    refine lv_iload C.1.1 C.1.2.1 dX11_flattens_45 (lv_at hl 3 rfl) ?_
    refine r_if_le C (tgt := 69) dX11_flattens_47 (by decide) hf (fun hf => ?_) (fun hf => ?_)
    · exact hk69 x1 x2 x4 x5 S H locs ls hf hw (lv_sub hl [0, 1, 2, 3, 4] rfl)
    · refine lv_aload_n C.1.1 C.1.2.1 dX11_flattens_50 rfl (lv_at hl 0 rfl) ?_
      refine r_getR (k := 42) C hw shM_0 ltM_0 cO11 rfl (by decide) tw5_186 rfl dX11_flattens_51 ?_
      refine lv_iload C.1.1 C.1.2.1 dX11_flattens_54 (lv_at hl 3 rfl) ?_
      refine r_iconst (v := 1) C dX11_flattens_56 ?_
      refine r_isub C dX11_flattens_57 ?_
      refine r_iald C hw shM_22 ltM_22 (Nat.le_of_ble_eq_true rfl) dX11_flattens_58 hf (fun v58 hf => ?_)
      refine lv_iload_n C.1.1 C.1.2.1 dX11_flattens_59 rfl (lv_at hl 2 rfl) ?_
      refine r_icmp_le C (tgt := 69) dX11_flattens_60 (by decide) hf (fun hf => ?_) (fun hf => ?_)
      · exact hk69 x1 x2 x4 x5 S H locs ls hf hw (lv_sub hl [0, 1, 2, 3, 4] rfl)
      · refine lv_iinc (v := iz (x4 + (-1))) (lv' := [(4, .int (iz (x4 + (-1)))), (0, .ref (X.2.2 0)), (1, .int (iz x1)), (2, .int (iz x2)), (5, .int (iz x5))]) C.1.1 C.1.2.1 dX11_flattens_63 hl (k := 3) rfl (iz_add _ _) (by decide) rfl (fun ls hl => ?_)
        refine lv_goto (tgt := 45) C.1.1 C.1.2.1 dX11_flattens_66 (by decide) ?_
        exact ih x1 x2 (x4 + (-1)) x5 S H locs ls hf hw (lv_sub hl [1, 2, 3, 0, 4] rfl)
set_option maxRecDepth 100000 in
set_option maxHeartbeats 4000000 in
theorem w_X11_flattens_13 {p : Program} (l : Launch) {e : Env} {s : State} {m : MethodId} {args : Array Value} {below : List Frame} {meth : Method} {c : Code} {X : XT} (hinj : XInj X nM) (hZ : ZOK (Zm X)) (C : CX p s m args meth c cX11_flattens 7 RX11 (some .int) X nM (Zm X)) (out : Int × S2) (k161 : S2 → Option (Int × S2)) (hk161 : ∀ (S : S2) (H : Heap) (locs : List Loc) (ls : Array Slot), k161 S = some out → WH X shM nM s S H locs → lv_has ls 7 [(0, .ref (X.2.2 0))] → W p l e rmX11_flattens s m args below meth c H locs 0 0 (QI X shM nM s args below out) (F0 m 161 ls [])) : ∀ (N : Nat), ∀ (x1 : Int) (S : S2) (H : Heap) (locs : List Loc) (ls : Array Slot), f_X11_flattens_13 k161 N x1 S = some out → WH X shM nM s S H locs → lv_has ls 7 [(0, .ref (X.2.2 0)), (1, .int (iz x1))] → W p l e rmX11_flattens s m args below meth c H locs 0 0 (QI X shM nM s args below out) (F0 m 13 ls []) := by
  intro N
  induction N with
  | zero => intro x1 S H locs ls hf hw hl; cases hf
  | succ N ih =>
    intro x1 S H locs ls hf hw hl
    rw [f_X11_flattens_13.eq_2] at hf
    refine lv_iload_n C.1.1 C.1.2.1 dX11_flattens_13 rfl (lv_at hl 1 rfl) ?_
    refine lv_aload_n C.1.1 C.1.2.1 dX11_flattens_14 rfl (lv_at hl 0 rfl) ?_
    refine r_getI (k := 35) C hw shM_0 ltM_0 cO11 rfl (by decide) tw5_179 rfl dX11_flattens_15 hf (fun v15 hf => ?_)
    refine r_icmp_ge C (tgt := 161) dX11_flattens_18 (by decide) hf (fun hf => ?_) (fun hf => ?_)
    · exact hk161 S H locs ls hf hw (lv_sub hl [0] rfl)
    · refine lv_aload_n C.1.1 C.1.2.1 dX11_flattens_21 rfl (lv_at hl 0 rfl) ?_
      refine r_getR (k := 32) C hw shM_0 ltM_0 cO11 rfl (by decide) tw5_176 rfl dX11_flattens_22 ?_
      refine lv_aload_n C.1.1 C.1.2.1 dX11_flattens_25 rfl (lv_at hl 0 rfl) ?_
      refine r_getR (k := 36) C hw shM_0 ltM_0 cO11 rfl (by decide) tw5_180 rfl dX11_flattens_26 ?_
      refine lv_iload_n C.1.1 C.1.2.1 dX11_flattens_29 rfl (lv_at hl 1 rfl) ?_
      refine r_iald C hw shM_18 ltM_18 (Nat.le_of_ble_eq_true rfl) dX11_flattens_30 hf (fun v30 hf => ?_)
      refine r_iald C hw shM_15 ltM_15 (Nat.le_of_ble_eq_true rfl) dX11_flattens_31 hf (fun v31 hf => ?_)
      refine lv_istore_n (lv' := [(2, .int (iz v31)), (0, .ref (X.2.2 0)), (1, .int (iz x1))]) C.1.1 C.1.2.1 dX11_flattens_32 rfl hl (by decide) rfl (fun ls hl => ?_)
      refine lv_aload_n C.1.1 C.1.2.1 dX11_flattens_33 rfl (lv_at hl 1 rfl) ?_
      refine lv_iload_n C.1.1 C.1.2.1 dX11_flattens_34 rfl (lv_at hl 2 rfl) ?_
      refine r_callI (As := [.int (iz x1)]) (rest := []) (rm := rmX11_placeOf) C hw shM_0 ltM_0 cO11 tw7_41 tw7_43 tp_80 tw1_12 tw7_44 hd_X11_placeOf rfl ⟨⟨rfl, rfl⟩, Nat.le_of_ble_eq_true rfl, Nat.le_of_ble_eq_true rfl⟩ hl.1 rfl (Nat.le_of_ble_eq_true rfl) dX11_flattens_35 hf (fun o ho => c_X11_placeOf l X hinj hZ N S x1 o ho) (fun v35 S35 H locs hf hw => ?_)
      refine lv_istore_n (lv' := [(3, .int (iz v35)), (2, .int (iz v31)), (0, .ref (X.2.2 0)), (1, .int (iz x1))]) C.1.1 C.1.2.1 dX11_flattens_38 rfl hl (by decide) rfl (fun ls hl => ?_)
      refine lv_iload_n C.1.1 C.1.2.1 dX11_flattens_39 rfl (lv_at hl 0 rfl) ?_
      refine lv_istore (lv' := [(4, .int (iz v35)), (3, .int (iz v35)), (2, .int (iz v31)), (0, .ref (X.2.2 0)), (1, .int (iz x1))]) C.1.1 C.1.2.1 dX11_flattens_40 hl (by decide) rfl (fun ls hl => ?_)
      refine lv_iload_n C.1.1 C.1.2.1 dX11_flattens_42 rfl (lv_at hl 1 rfl) ?_
      refine lv_istore (lv' := [(5, .int (iz v35)), (4, .int (iz v35)), (3, .int (iz v35)), (2, .int (iz v31)), (0, .ref (X.2.2 0)), (1, .int (iz x1))]) C.1.1 C.1.2.1 dX11_flattens_43 hl (by decide) rfl (fun ls hl => ?_)
      exact (w_X11_flattens_45 l hinj hZ C out (f_X11_flattens_69 (f_X11_flattens_99 (f_X11_flattens_13 k161 N) N) N) (w_X11_flattens_69 l hinj hZ C out (f_X11_flattens_99 (f_X11_flattens_13 k161 N) N) (w_X11_flattens_99 l hinj hZ C out (f_X11_flattens_13 k161 N) ih N) N) N) x1 v31 v35 v35 S35 H locs ls hf hw (lv_sub hl [4, 5, 3, 1, 0] rfl)
set_option maxRecDepth 100000 in
set_option maxHeartbeats 4000000 in
theorem c_X11_flattens (l : Launch) (X : XT) (hinj : XInj X nM) (hZ : ZOK (Zm X)) (N : Nat) (S : S2) (out : Int × S2) (hf : f_X11_flattens N S = some out) : MI l X shM nM (Zm X) yX11_flattens cX11_flattens 7 (some .int) rmX11_flattens [.ref (X.2.2 0)] S out := by
  refine met_I (own := RX11) (by decide) rfl hinj hZ (Nat.le_of_ble_eq_true rfl) (fun p e s m args below meth c C ls H locs hw hl => ?_)
  unfold f_X11_flattens at hf
  have hl : lv_has ls 7 [(0, .ref (X.2.2 0))] := hl
  refine lv_aload_n C.1.1 C.1.2.1 dX11_flattens_0 rfl (lv_at hl 0 rfl) ?_
  refine r_callV (As := []) (rest := []) (rm := rmX11_finds) C hw shM_0 ltM_0 cO11 tw7_1 tw7_3 tp_70 tw1_12 tw7_4 hd_X11_finds rfl ⟨⟨rfl, rfl⟩, Nat.le_of_ble_eq_true rfl, Nat.le_of_ble_eq_true rfl⟩ hl.1 rfl (Nat.le_of_ble_eq_true rfl) dX11_flattens_1 hf (fun o ho => c_X11_finds l X hinj hZ N S o ho) (fun S1 H locs hf hw => ?_)
  refine lv_aload_n C.1.1 C.1.2.1 dX11_flattens_4 rfl (lv_at hl 0 rfl) ?_
  refine r_callV (As := []) (rest := []) (rm := rmX11_keepWas) C hw shM_0 ltM_0 cO11 tw6_228 tw6_230 tp_68 tw1_12 tw6_231 hd_X11_keepWas rfl ⟨⟨rfl, rfl⟩, Nat.le_of_ble_eq_true rfl, Nat.le_of_ble_eq_true rfl⟩ hl.1 rfl (Nat.le_of_ble_eq_true rfl) dX11_flattens_5 hf (fun o ho => c_X11_keepWas l X hinj hZ N S1 o ho) (fun S5 H locs hf hw => ?_)
  refine lv_aload_n C.1.1 C.1.2.1 dX11_flattens_8 rfl (lv_at hl 0 rfl) ?_
  refine r_getI (k := 38) C hw shM_0 ltM_0 cO11 rfl (by decide) tw5_182 rfl dX11_flattens_9 hf (fun v9 hf => ?_)
  refine lv_istore_n (lv' := [(1, .int (iz v9)), (0, .ref (X.2.2 0))]) C.1.1 C.1.2.1 dX11_flattens_12 rfl hl (by decide) rfl (fun ls hl => ?_)
  exact (w_X11_flattens_13 l hinj hZ C out (f_X11_flattens_161 N) (w_X11_flattens_161 l hinj hZ C out N) N) v9 S5 H locs ls hf hw (lv_sub hl [1, 0] rfl)
def f_X11_keptNow (N : Nat) (S : S2) : Option (Int × S2) := bV (f_X11_finds N S) fun S1 => gI S1 0 38 fun v5 => rI v5 S1
abbrev rmX11_keptNow : Room := { frames := 4, cells := 0, slots := 0, locals := 93 }
theorem hd_X11_keptNow : yX11_keptNow.cls ≠ "java/lang/invoke/MethodHandle" ∧ yX11_keptNow.cls ≠ "java/lang/invoke/VarHandle" ∧ (parseMethodDescriptor yX11_keptNow.desc).map (fun d => d.parameters.length) = some 0 := by decide +kernel
set_option maxRecDepth 100000 in
set_option maxHeartbeats 4000000 in
theorem c_X11_keptNow (l : Launch) (X : XT) (hinj : XInj X nM) (hZ : ZOK (Zm X)) (N : Nat) (S : S2) (out : Int × S2) (hf : f_X11_keptNow N S = some out) : MI l X shM nM (Zm X) yX11_keptNow cX11_keptNow 1 (some .int) rmX11_keptNow [.ref (X.2.2 0)] S out := by
  refine met_I (own := RX11) (by decide) rfl hinj hZ (Nat.le_of_ble_eq_true rfl) (fun p e s m args below meth c C ls H locs hw hl => ?_)
  unfold f_X11_keptNow at hf
  have hl : lv_has ls 1 [(0, .ref (X.2.2 0))] := hl
  refine lv_aload_n C.1.1 C.1.2.1 dX11_keptNow_0 rfl (lv_at hl 0 rfl) ?_
  refine r_callV (As := []) (rest := []) (rm := rmX11_finds) C hw shM_0 ltM_0 cO11 tw7_1 tw7_3 tp_70 tw1_12 tw7_4 hd_X11_finds rfl ⟨⟨rfl, rfl⟩, Nat.le_of_ble_eq_true rfl, Nat.le_of_ble_eq_true rfl⟩ hl.1 rfl (Nat.le_of_ble_eq_true rfl) dX11_keptNow_1 hf (fun o ho => c_X11_finds l X hinj hZ N S o ho) (fun S1 H locs hf hw => ?_)
  refine lv_aload_n C.1.1 C.1.2.1 dX11_keptNow_4 rfl (lv_at hl 0 rfl) ?_
  refine r_getI (k := 38) C hw shM_0 ltM_0 cO11 rfl (by decide) tw5_182 rfl dX11_keptNow_5 hf (fun v5 hf => ?_)
  exact r_retI C hw dX11_keptNow_8 hf
def f_X11_doNow (N : Nat) (S : S2) (a1 : Int) (a2 : Int) (a3 : Int) : Option (Int × S2) := cI a1 0 (if a1 = 0 then bV (f_X11_blends N S 0) fun S58 => bI (f_X11_keptNow N S58) fun v62 S62 => rI v62 S62 else (if a1 = 1 then bV (f_X11_blends N S 1) fun S68 => bI (f_X11_keptNow N S68) fun v72 S72 => rI v72 S72 else (if a1 = 2 then bI (f_X11_flattens N S) fun v77 S77 => rI v77 S77 else (if a1 = 3 then bI (f_X11_turns N S) fun v82 S82 => rI v82 S82 else (if a1 = 4 then bI (f_X11_clips N S a2) fun v88 S88 => rI v88 S88 else (if a1 = 5 then bI (f_X11_lifts N S a2) fun v94 S94 => rI v94 S94 else (if a1 = 6 then bI (f_X11_scales N S a2 a3) fun v101 S101 => rI v101 S101 else (if a1 = 7 then bI (f_X11_sets N S a2 a3) fun v108 S108 => rI v108 S108 else (if a1 = 8 then aI S 8 231 49 fun v118 => sI S 8 231 49 a2 fun S128 => rI v118 S128 else bI (f_X11_cuts N S a2 a3) fun v135 S135 => rI v135 S135)))))))))
abbrev rmX11_doNow : Room := { frames := 5, cells := 0, slots := 0, locals := 119 }
theorem hd_X11_doNow : yX11_doNow.cls ≠ "java/lang/invoke/MethodHandle" ∧ yX11_doNow.cls ≠ "java/lang/invoke/VarHandle" ∧ (parseMethodDescriptor yX11_doNow.desc).map (fun d => d.parameters.length) = some 3 := by decide +kernel
set_option maxRecDepth 100000 in
set_option maxHeartbeats 4000000 in
theorem c_X11_doNow (l : Launch) (X : XT) (hinj : XInj X nM) (hZ : ZOK (Zm X)) (N : Nat) (S : S2) (a1 : Int) (a2 : Int) (a3 : Int) (out : Int × S2) (hf : f_X11_doNow N S a1 a2 a3 = some out) : MI l X shM nM (Zm X) yX11_doNow cX11_doNow 5 (some .int) rmX11_doNow [.ref (X.2.2 0), .int (iz a1), .int (iz a2), .int (iz a3)] S out := by
  refine met_I (own := RX11) (by decide) rfl hinj hZ (Nat.le_of_ble_eq_true rfl) (fun p e s m args below meth c C ls H locs hw hl => ?_)
  unfold f_X11_doNow at hf
  have hl : lv_has ls 5 [(0, .ref (X.2.2 0)), (1, .int (iz a1)), (2, .int (iz a2)), (3, .int (iz a3))] := hl
  refine r_iconst (v := 0) C dX11_doNow_0 ?_
  refine lv_istore (lv' := [(4, .int (iz 0)), (0, .ref (X.2.2 0)), (1, .int (iz a1)), (2, .int (iz a2)), (3, .int (iz a3))]) C.1.1 C.1.2.1 dX11_doNow_1 hl (by decide) rfl (fun ls hl => ?_)
  refine lv_iload_n C.1.1 C.1.2.1 dX11_doNow_3 rfl (lv_at hl 2 rfl) ?_
  obtain ⟨⟨hsw, -⟩, hf⟩ := cI_some hf
  rcases ite_some hf with ⟨hc4_0, hf⟩ | ⟨hc4_0, hf⟩
  · refine lv_tableIn (tgt := 56) C.1.1 C.1.2.1 dX11_doNow_4 (by rw [hc4_0]; decide) (by rw [hc4_0]; decide) (by rw [hc4_0]; rfl) (by decide) ?_
    refine lv_aload_n C.1.1 C.1.2.1 dX11_doNow_56 rfl (lv_at hl 1 rfl) ?_
    refine r_iconst (v := 0) C dX11_doNow_57 ?_
    refine r_callV (As := [.int (iz 0)]) (rest := []) (rm := rmX11_blends) C hw shM_0 ltM_0 cO11 tw6_224 tw6_226 tp_67 tw1_12 tw6_227 hd_X11_blends rfl ⟨⟨rfl, rfl⟩, Nat.le_of_ble_eq_true rfl, Nat.le_of_ble_eq_true rfl⟩ hl.1 rfl (Nat.le_of_ble_eq_true rfl) dX11_doNow_58 hf (fun o ho => c_X11_blends l X hinj hZ N S 0 o ho) (fun S58 H locs hf hw => ?_)
    refine lv_aload_n C.1.1 C.1.2.1 dX11_doNow_61 rfl (lv_at hl 1 rfl) ?_
    refine r_callI (As := []) (rest := []) (rm := rmX11_keptNow) C hw shM_0 ltM_0 cO11 tw6_237 tw6_239 tp_69 tw1_12 tw7_0 hd_X11_keptNow rfl ⟨⟨rfl, rfl⟩, Nat.le_of_ble_eq_true rfl, Nat.le_of_ble_eq_true rfl⟩ hl.1 rfl (Nat.le_of_ble_eq_true rfl) dX11_doNow_62 hf (fun o ho => c_X11_keptNow l X hinj hZ N S58 o ho) (fun v62 S62 H locs hf hw => ?_)
    exact r_retI C hw dX11_doNow_65 hf
  · skip
    rcases ite_some hf with ⟨hc4_1, hf⟩ | ⟨hc4_1, hf⟩
    · refine lv_tableIn (tgt := 66) C.1.1 C.1.2.1 dX11_doNow_4 (by rw [hc4_1]; decide) (by rw [hc4_1]; decide) (by rw [hc4_1]; rfl) (by decide) ?_
      refine lv_aload_n C.1.1 C.1.2.1 dX11_doNow_66 rfl (lv_at hl 1 rfl) ?_
      refine r_iconst (v := 1) C dX11_doNow_67 ?_
      refine r_callV (As := [.int (iz 1)]) (rest := []) (rm := rmX11_blends) C hw shM_0 ltM_0 cO11 tw6_224 tw6_226 tp_67 tw1_12 tw6_227 hd_X11_blends rfl ⟨⟨rfl, rfl⟩, Nat.le_of_ble_eq_true rfl, Nat.le_of_ble_eq_true rfl⟩ hl.1 rfl (Nat.le_of_ble_eq_true rfl) dX11_doNow_68 hf (fun o ho => c_X11_blends l X hinj hZ N S 1 o ho) (fun S68 H locs hf hw => ?_)
      refine lv_aload_n C.1.1 C.1.2.1 dX11_doNow_71 rfl (lv_at hl 1 rfl) ?_
      refine r_callI (As := []) (rest := []) (rm := rmX11_keptNow) C hw shM_0 ltM_0 cO11 tw6_237 tw6_239 tp_69 tw1_12 tw7_0 hd_X11_keptNow rfl ⟨⟨rfl, rfl⟩, Nat.le_of_ble_eq_true rfl, Nat.le_of_ble_eq_true rfl⟩ hl.1 rfl (Nat.le_of_ble_eq_true rfl) dX11_doNow_72 hf (fun o ho => c_X11_keptNow l X hinj hZ N S68 o ho) (fun v72 S72 H locs hf hw => ?_)
      exact r_retI C hw dX11_doNow_75 hf
    · skip
      rcases ite_some hf with ⟨hc4_2, hf⟩ | ⟨hc4_2, hf⟩
      · refine lv_tableIn (tgt := 76) C.1.1 C.1.2.1 dX11_doNow_4 (by rw [hc4_2]; decide) (by rw [hc4_2]; decide) (by rw [hc4_2]; rfl) (by decide) ?_
        refine lv_aload_n C.1.1 C.1.2.1 dX11_doNow_76 rfl (lv_at hl 1 rfl) ?_
        refine r_callI (As := []) (rest := []) (rm := rmX11_flattens) C hw shM_0 ltM_0 cO11 tw7_48 tw7_50 tp_81 tw1_12 tw7_51 hd_X11_flattens rfl ⟨⟨rfl, rfl⟩, Nat.le_of_ble_eq_true rfl, Nat.le_of_ble_eq_true rfl⟩ hl.1 rfl (Nat.le_of_ble_eq_true rfl) dX11_doNow_77 hf (fun o ho => c_X11_flattens l X hinj hZ N S o ho) (fun v77 S77 H locs hf hw => ?_)
        exact r_retI C hw dX11_doNow_80 hf
      · skip
        rcases ite_some hf with ⟨hc4_3, hf⟩ | ⟨hc4_3, hf⟩
        · refine lv_tableIn (tgt := 81) C.1.1 C.1.2.1 dX11_doNow_4 (by rw [hc4_3]; decide) (by rw [hc4_3]; decide) (by rw [hc4_3]; rfl) (by decide) ?_
          refine lv_aload_n C.1.1 C.1.2.1 dX11_doNow_81 rfl (lv_at hl 1 rfl) ?_
          refine r_callI (As := []) (rest := []) (rm := rmX11_turns) C hw shM_0 ltM_0 cO11 tw7_56 tw7_58 tp_83 tw1_12 tw7_59 hd_X11_turns rfl ⟨⟨rfl, rfl⟩, Nat.le_of_ble_eq_true rfl, Nat.le_of_ble_eq_true rfl⟩ hl.1 rfl (Nat.le_of_ble_eq_true rfl) dX11_doNow_82 hf (fun o ho => c_X11_turns l X hinj hZ N S o ho) (fun v82 S82 H locs hf hw => ?_)
          exact r_retI C hw dX11_doNow_85 hf
        · skip
          rcases ite_some hf with ⟨hc4_4, hf⟩ | ⟨hc4_4, hf⟩
          · refine lv_tableIn (tgt := 86) C.1.1 C.1.2.1 dX11_doNow_4 (by rw [hc4_4]; decide) (by rw [hc4_4]; decide) (by rw [hc4_4]; rfl) (by decide) ?_
            refine lv_aload_n C.1.1 C.1.2.1 dX11_doNow_86 rfl (lv_at hl 1 rfl) ?_
            refine lv_iload_n C.1.1 C.1.2.1 dX11_doNow_87 rfl (lv_at hl 3 rfl) ?_
            refine r_callI (As := [.int (iz a2)]) (rest := []) (rm := rmX11_clips) C hw shM_0 ltM_0 cO11 tw7_60 tw7_62 tp_84 tw1_12 tw7_63 hd_X11_clips rfl ⟨⟨rfl, rfl⟩, Nat.le_of_ble_eq_true rfl, Nat.le_of_ble_eq_true rfl⟩ hl.1 rfl (Nat.le_of_ble_eq_true rfl) dX11_doNow_88 hf (fun o ho => c_X11_clips l X hinj hZ N S a2 o ho) (fun v88 S88 H locs hf hw => ?_)
            exact r_retI C hw dX11_doNow_91 hf
          · skip
            rcases ite_some hf with ⟨hc4_5, hf⟩ | ⟨hc4_5, hf⟩
            · refine lv_tableIn (tgt := 92) C.1.1 C.1.2.1 dX11_doNow_4 (by rw [hc4_5]; decide) (by rw [hc4_5]; decide) (by rw [hc4_5]; rfl) (by decide) ?_
              refine lv_aload_n C.1.1 C.1.2.1 dX11_doNow_92 rfl (lv_at hl 1 rfl) ?_
              refine lv_iload_n C.1.1 C.1.2.1 dX11_doNow_93 rfl (lv_at hl 3 rfl) ?_
              refine r_callI (As := [.int (iz a2)]) (rest := []) (rm := rmX11_lifts) C hw shM_0 ltM_0 cO11 tw7_64 tw7_66 tp_85 tw1_12 tw7_67 hd_X11_lifts rfl ⟨⟨rfl, rfl⟩, Nat.le_of_ble_eq_true rfl, Nat.le_of_ble_eq_true rfl⟩ hl.1 rfl (Nat.le_of_ble_eq_true rfl) dX11_doNow_94 hf (fun o ho => c_X11_lifts l X hinj hZ N S a2 o ho) (fun v94 S94 H locs hf hw => ?_)
              exact r_retI C hw dX11_doNow_97 hf
            · skip
              rcases ite_some hf with ⟨hc4_6, hf⟩ | ⟨hc4_6, hf⟩
              · refine lv_tableIn (tgt := 98) C.1.1 C.1.2.1 dX11_doNow_4 (by rw [hc4_6]; decide) (by rw [hc4_6]; decide) (by rw [hc4_6]; rfl) (by decide) ?_
                refine lv_aload_n C.1.1 C.1.2.1 dX11_doNow_98 rfl (lv_at hl 1 rfl) ?_
                refine lv_iload_n C.1.1 C.1.2.1 dX11_doNow_99 rfl (lv_at hl 3 rfl) ?_
                refine lv_iload_n C.1.1 C.1.2.1 dX11_doNow_100 rfl (lv_at hl 4 rfl) ?_
                refine r_callI (As := [.int (iz a2), .int (iz a3)]) (rest := []) (rm := rmX11_scales) C hw shM_0 ltM_0 cO11 tw7_68 tw7_70 tp_86 tw1_12 tw7_71 hd_X11_scales rfl ⟨⟨rfl, rfl⟩, Nat.le_of_ble_eq_true rfl, Nat.le_of_ble_eq_true rfl⟩ hl.1 rfl (Nat.le_of_ble_eq_true rfl) dX11_doNow_101 hf (fun o ho => c_X11_scales l X hinj hZ N S a2 a3 o ho) (fun v101 S101 H locs hf hw => ?_)
                exact r_retI C hw dX11_doNow_104 hf
              · skip
                rcases ite_some hf with ⟨hc4_7, hf⟩ | ⟨hc4_7, hf⟩
                · refine lv_tableIn (tgt := 105) C.1.1 C.1.2.1 dX11_doNow_4 (by rw [hc4_7]; decide) (by rw [hc4_7]; decide) (by rw [hc4_7]; rfl) (by decide) ?_
                  refine lv_aload_n C.1.1 C.1.2.1 dX11_doNow_105 rfl (lv_at hl 1 rfl) ?_
                  refine lv_iload_n C.1.1 C.1.2.1 dX11_doNow_106 rfl (lv_at hl 3 rfl) ?_
                  refine lv_iload_n C.1.1 C.1.2.1 dX11_doNow_107 rfl (lv_at hl 4 rfl) ?_
                  refine r_callI (As := [.int (iz a2), .int (iz a3)]) (rest := []) (rm := rmX11_sets) C hw shM_0 ltM_0 cO11 tw7_76 tw7_78 tp_88 tw1_12 tw7_79 hd_X11_sets rfl ⟨⟨rfl, rfl⟩, Nat.le_of_ble_eq_true rfl, Nat.le_of_ble_eq_true rfl⟩ hl.1 rfl (Nat.le_of_ble_eq_true rfl) dX11_doNow_108 hf (fun o ho => c_X11_sets l X hinj hZ N S a2 a3 o ho) (fun v108 S108 H locs hf hw => ?_)
                  exact r_retI C hw dX11_doNow_111 hf
                · skip
                  rcases ite_some hf with ⟨hc4_8, hf⟩ | ⟨hc4_8, hf⟩
                  · refine lv_tableIn (tgt := 112) C.1.1 C.1.2.1 dX11_doNow_4 (by rw [hc4_8]; decide) (by rw [hc4_8]; decide) (by rw [hc4_8]; rfl) (by decide) ?_
                    refine lv_aload_n C.1.1 C.1.2.1 dX11_doNow_112 rfl (lv_at hl 1 rfl) ?_
                    refine r_getR (k := 22) C hw shM_0 ltM_0 cO11 rfl (by decide) tw5_166 rfl dX11_doNow_113 ?_
                    refine r_bipush (v := 49) C dX11_doNow_116 (by decide) ?_
                    refine r_iald C hw shM_8 ltM_8 (Nat.le_of_ble_eq_true rfl) dX11_doNow_118 hf (fun v118 hf => ?_)
                    refine lv_istore (lv' := [(4, .int (iz v118)), (0, .ref (X.2.2 0)), (1, .int (iz a1)), (2, .int (iz a2)), (3, .int (iz a3))]) C.1.1 C.1.2.1 dX11_doNow_119 hl (by decide) rfl (fun ls hl => ?_)
                    refine lv_aload_n C.1.1 C.1.2.1 dX11_doNow_121 rfl (lv_at hl 1 rfl) ?_
                    refine r_getR (k := 22) C hw shM_0 ltM_0 cO11 rfl (by decide) tw5_166 rfl dX11_doNow_122 ?_
                    refine r_bipush (v := 49) C dX11_doNow_125 (by decide) ?_
                    refine lv_iload_n C.1.1 C.1.2.1 dX11_doNow_127 rfl (lv_at hl 3 rfl) ?_
                    refine r_iast C hw shM_8 ltM_8 (Nat.le_of_ble_eq_true rfl) dX11_doNow_128 hf (fun S128 H locs hf hw => ?_)
                    refine lv_iload C.1.1 C.1.2.1 dX11_doNow_129 (lv_at hl 0 rfl) ?_
                    exact r_retI C hw dX11_doNow_131 hf
                  · skip
                    refine lv_tableOut (tgt := 132) C.1.1 C.1.2.1 dX11_doNow_4 (by rw [sw_in hsw]; omega) (by decide) ?_
                    refine lv_aload_n C.1.1 C.1.2.1 dX11_doNow_132 rfl (lv_at hl 1 rfl) ?_
                    refine lv_iload_n C.1.1 C.1.2.1 dX11_doNow_133 rfl (lv_at hl 3 rfl) ?_
                    refine lv_iload_n C.1.1 C.1.2.1 dX11_doNow_134 rfl (lv_at hl 4 rfl) ?_
                    refine r_callI (As := [.int (iz a2), .int (iz a3)]) (rest := []) (rm := rmX11_cuts) C hw shM_0 ltM_0 cO11 tw7_80 tw7_82 tp_89 tw1_12 tw7_83 hd_X11_cuts rfl ⟨⟨rfl, rfl⟩, Nat.le_of_ble_eq_true rfl, Nat.le_of_ble_eq_true rfl⟩ hl.1 rfl (Nat.le_of_ble_eq_true rfl) dX11_doNow_135 hf (fun o ho => c_X11_cuts l X hinj hZ N S a2 a3 o ho) (fun v135 S135 H locs hf hw => ?_)
                    exact r_retI C hw dX11_doNow_138 hf
def f_X11_note_58 (N : Nat) (x1 : Int) (x2 : Int) (S : S2) : Option (S2) := aI S 8 231 50 fun v67 => sI S 8 231 (51 + (3 * v67)) x1 fun S77 => sI S77 8 231 ((51 + (3 * v67)) + 1) x2 fun S86 => bI (f_X11_keptNow N S86) fun v95 S95 => sI S95 8 231 ((51 + (3 * v67)) + 2) v95 fun S98 => aI S98 8 231 50 fun v106 => sI S98 8 231 50 (v106 + 1) fun S109 => rV S109
def f_X11_note_47 (N : Nat) (x1 : Int) (x2 : Int) (S : S2) : Option (S2) := aI S 8 231 50 fun v54 => sI S 8 231 50 (v54 - 1) fun S57 => (f_X11_note_58 N) x1 x2 S57
def f_X11_note_14 (k47 : Int → Int → S2 → Option (S2)) : Nat → Int → Int → Int → S2 → Option (S2)
  | 0, _, _, _, _ => none
  | N + 1, x1, x2, x3, S => cI x3 180 (if 180 ≤ x3 then k47 x1 x2 S else aI S 8 231 (51 + x3) fun v39 => sI S 8 231 ((51 + x3) - 3) v39 fun S40 => (f_X11_note_14 k47 N) x1 x2 (x3 + 1) S40)
def f_X11_note (N : Nat) (S : S2) (a1 : Int) (a2 : Int) : Option (S2) := aI S 8 231 50 fun v6 => cI v6 60 (if v6 = 60 then (f_X11_note_14 (f_X11_note_47 N) N) a1 a2 3 S else (f_X11_note_58 N) a1 a2 S)
abbrev rmX11_note : Room := { frames := 5, cells := 0, slots := 0, locals := 113 }
theorem hd_X11_note : yX11_note.cls ≠ "java/lang/invoke/MethodHandle" ∧ yX11_note.cls ≠ "java/lang/invoke/VarHandle" ∧ (parseMethodDescriptor yX11_note.desc).map (fun d => d.parameters.length) = some 2 := by decide +kernel
set_option maxRecDepth 100000 in
set_option maxHeartbeats 4000000 in
theorem w_X11_note_58 {p : Program} (l : Launch) {e : Env} {s : State} {m : MethodId} {args : Array Value} {below : List Frame} {meth : Method} {c : Code} {X : XT} (hinj : XInj X nM) (hZ : ZOK (Zm X)) (C : CX p s m args meth c cX11_note 4 RX11 none X nM (Zm X)) (out : S2) : ∀ (N : Nat), ∀ (x1 : Int) (x2 : Int) (S : S2) (H : Heap) (locs : List Loc) (ls : Array Slot), f_X11_note_58 N x1 x2 S = some out → WH X shM nM s S H locs → lv_has ls 4 [(0, .ref (X.2.2 0)), (1, .int (iz x1)), (2, .int (iz x2))] → W p l e rmX11_note s m args below meth c H locs 0 0 (QV X shM nM s args below out) (F0 m 58 ls []) := by
  intro N x1 x2 S H locs ls hf hw hl
  unfold f_X11_note_58 at hf
  refine r_bipush (v := 51) C dX11_note_58 (by decide) ?_
  refine r_iconst (v := 3) C dX11_note_60 ?_
  refine lv_aload_n C.1.1 C.1.2.1 dX11_note_61 rfl (lv_at hl 0 rfl) ?_
  refine r_getR (k := 22) C hw shM_0 ltM_0 cO11 rfl (by decide) tw5_166 rfl dX11_note_62 ?_
  refine r_bipush (v := 50) C dX11_note_65 (by decide) ?_
  refine r_iald C hw shM_8 ltM_8 (Nat.le_of_ble_eq_true rfl) dX11_note_67 hf (fun v67 hf => ?_)
  refine r_imul C dX11_note_68 ?_
  refine r_iadd C dX11_note_69 ?_
  refine lv_istore_n (lv' := [(3, .int (iz (51 + (3 * v67)))), (0, .ref (X.2.2 0)), (1, .int (iz x1)), (2, .int (iz x2))]) C.1.1 C.1.2.1 dX11_note_70 rfl hl (by decide) rfl (fun ls hl => ?_)
  refine lv_aload_n C.1.1 C.1.2.1 dX11_note_71 rfl (lv_at hl 1 rfl) ?_
  refine r_getR (k := 22) C hw shM_0 ltM_0 cO11 rfl (by decide) tw5_166 rfl dX11_note_72 ?_
  refine lv_iload_n C.1.1 C.1.2.1 dX11_note_75 rfl (lv_at hl 0 rfl) ?_
  refine lv_iload_n C.1.1 C.1.2.1 dX11_note_76 rfl (lv_at hl 2 rfl) ?_
  refine r_iast C hw shM_8 ltM_8 (Nat.le_of_ble_eq_true rfl) dX11_note_77 hf (fun S77 H locs hf hw => ?_)
  refine lv_aload_n C.1.1 C.1.2.1 dX11_note_78 rfl (lv_at hl 1 rfl) ?_
  refine r_getR (k := 22) C hw shM_0 ltM_0 cO11 rfl (by decide) tw5_166 rfl dX11_note_79 ?_
  refine lv_iload_n C.1.1 C.1.2.1 dX11_note_82 rfl (lv_at hl 0 rfl) ?_
  refine r_iconst (v := 1) C dX11_note_83 ?_
  refine r_iadd C dX11_note_84 ?_
  refine lv_iload_n C.1.1 C.1.2.1 dX11_note_85 rfl (lv_at hl 3 rfl) ?_
  refine r_iast C hw shM_8 ltM_8 (Nat.le_of_ble_eq_true rfl) dX11_note_86 hf (fun S86 H locs hf hw => ?_)
  refine lv_aload_n C.1.1 C.1.2.1 dX11_note_87 rfl (lv_at hl 1 rfl) ?_
  refine r_getR (k := 22) C hw shM_0 ltM_0 cO11 rfl (by decide) tw5_166 rfl dX11_note_88 ?_
  refine lv_iload_n C.1.1 C.1.2.1 dX11_note_91 rfl (lv_at hl 0 rfl) ?_
  refine r_iconst (v := 2) C dX11_note_92 ?_
  refine r_iadd C dX11_note_93 ?_
  refine lv_aload_n C.1.1 C.1.2.1 dX11_note_94 rfl (lv_at hl 1 rfl) ?_
  refine r_callI (As := []) (rest := [.int (iz ((51 + (3 * v67)) + 2)), .ref (X.2.2 8)]) (rm := rmX11_keptNow) C hw shM_0 ltM_0 cO11 tw6_237 tw6_239 tp_69 tw1_12 tw7_0 hd_X11_keptNow rfl ⟨⟨rfl, rfl⟩, Nat.le_of_ble_eq_true rfl, Nat.le_of_ble_eq_true rfl⟩ hl.1 rfl (Nat.le_of_ble_eq_true rfl) dX11_note_95 hf (fun o ho => c_X11_keptNow l X hinj hZ N S86 o ho) (fun v95 S95 H locs hf hw => ?_)
  refine r_iast C hw shM_8 ltM_8 (Nat.le_of_ble_eq_true rfl) dX11_note_98 hf (fun S98 H locs hf hw => ?_)
  refine lv_aload_n C.1.1 C.1.2.1 dX11_note_99 rfl (lv_at hl 1 rfl) ?_
  refine r_getR (k := 22) C hw shM_0 ltM_0 cO11 rfl (by decide) tw5_166 rfl dX11_note_100 ?_
  refine r_bipush (v := 50) C dX11_note_103 (by decide) ?_
  refine lv_dup2_11 C.1.1 C.1.2.1 dX11_note_105 rfl rfl ?_
  refine r_iald C hw shM_8 ltM_8 (Nat.le_of_ble_eq_true rfl) dX11_note_106 hf (fun v106 hf => ?_)
  refine r_iconst (v := 1) C dX11_note_107 ?_
  refine r_iadd C dX11_note_108 ?_
  refine r_iast C hw shM_8 ltM_8 (Nat.le_of_ble_eq_true rfl) dX11_note_109 hf (fun S109 H locs hf hw => ?_)
  exact r_retV C hw dX11_note_110 hf
set_option maxRecDepth 100000 in
set_option maxHeartbeats 4000000 in
theorem w_X11_note_47 {p : Program} (l : Launch) {e : Env} {s : State} {m : MethodId} {args : Array Value} {below : List Frame} {meth : Method} {c : Code} {X : XT} (hinj : XInj X nM) (hZ : ZOK (Zm X)) (C : CX p s m args meth c cX11_note 4 RX11 none X nM (Zm X)) (out : S2) : ∀ (N : Nat), ∀ (x1 : Int) (x2 : Int) (S : S2) (H : Heap) (locs : List Loc) (ls : Array Slot), f_X11_note_47 N x1 x2 S = some out → WH X shM nM s S H locs → lv_has ls 4 [(0, .ref (X.2.2 0)), (1, .int (iz x1)), (2, .int (iz x2))] → W p l e rmX11_note s m args below meth c H locs 0 0 (QV X shM nM s args below out) (F0 m 47 ls []) := by
  intro N x1 x2 S H locs ls hf hw hl
  unfold f_X11_note_47 at hf
  refine lv_aload_n C.1.1 C.1.2.1 dX11_note_47 rfl (lv_at hl 0 rfl) ?_
  refine r_getR (k := 22) C hw shM_0 ltM_0 cO11 rfl (by decide) tw5_166 rfl dX11_note_48 ?_
  refine r_bipush (v := 50) C dX11_note_51 (by decide) ?_
  refine lv_dup2_11 C.1.1 C.1.2.1 dX11_note_53 rfl rfl ?_
  refine r_iald C hw shM_8 ltM_8 (Nat.le_of_ble_eq_true rfl) dX11_note_54 hf (fun v54 hf => ?_)
  refine r_iconst (v := 1) C dX11_note_55 ?_
  refine r_isub C dX11_note_56 ?_
  refine r_iast C hw shM_8 ltM_8 (Nat.le_of_ble_eq_true rfl) dX11_note_57 hf (fun S57 H locs hf hw => ?_)
  exact (w_X11_note_58 l hinj hZ C out N) x1 x2 S57 H locs ls hf hw (lv_sub hl [0, 1, 2] rfl)
set_option maxRecDepth 100000 in
set_option maxHeartbeats 4000000 in
theorem w_X11_note_14 {p : Program} (l : Launch) {e : Env} {s : State} {m : MethodId} {args : Array Value} {below : List Frame} {meth : Method} {c : Code} {X : XT} (hinj : XInj X nM) (hZ : ZOK (Zm X)) (C : CX p s m args meth c cX11_note 4 RX11 none X nM (Zm X)) (out : S2) (k47 : Int → Int → S2 → Option (S2)) (hk47 : ∀ (x1 : Int) (x2 : Int) (S : S2) (H : Heap) (locs : List Loc) (ls : Array Slot), k47 x1 x2 S = some out → WH X shM nM s S H locs → lv_has ls 4 [(0, .ref (X.2.2 0)), (1, .int (iz x1)), (2, .int (iz x2))] → W p l e rmX11_note s m args below meth c H locs 0 0 (QV X shM nM s args below out) (F0 m 47 ls [])) : ∀ (N : Nat), ∀ (x1 : Int) (x2 : Int) (x3 : Int) (S : S2) (H : Heap) (locs : List Loc) (ls : Array Slot), f_X11_note_14 k47 N x1 x2 x3 S = some out → WH X shM nM s S H locs → lv_has ls 4 [(0, .ref (X.2.2 0)), (1, .int (iz x1)), (2, .int (iz x2)), (3, .int (iz x3))] → W p l e rmX11_note s m args below meth c H locs 0 0 (QV X shM nM s args below out) (F0 m 14 ls []) := by
  intro N
  induction N with
  | zero => intro x1 x2 x3 S H locs ls hf hw hl; cases hf
  | succ N ih =>
    intro x1 x2 x3 S H locs ls hf hw hl
    rw [f_X11_note_14.eq_2] at hf
    refine lv_iload_n C.1.1 C.1.2.1 dX11_note_14 rfl (lv_at hl 3 rfl) ?_
    refine r_sipush (v := 180) C dX11_note_15 (by decide) ?_
    refine r_icmp_ge C (tgt := 47) dX11_note_18 (by decide) hf (fun hf => ?_) (fun hf => ?_)
    · exact hk47 x1 x2 S H locs ls hf hw (lv_sub hl [0, 1, 2] rfl)
    · refine lv_aload_n C.1.1 C.1.2.1 dX11_note_21 rfl (lv_at hl 0 rfl) ?_
      refine r_getR (k := 22) C hw shM_0 ltM_0 cO11 rfl (by decide) tw5_166 rfl dX11_note_22 ?_
      refine r_bipush (v := 51) C dX11_note_25 (by decide) ?_
      refine lv_iload_n C.1.1 C.1.2.1 dX11_note_27 rfl (lv_at hl 3 rfl) ?_
      refine r_iadd C dX11_note_28 ?_
      refine r_iconst (v := 3) C dX11_note_29 ?_
      refine r_isub C dX11_note_30 ?_
      refine lv_aload_n C.1.1 C.1.2.1 dX11_note_31 rfl (lv_at hl 0 rfl) ?_
      refine r_getR (k := 22) C hw shM_0 ltM_0 cO11 rfl (by decide) tw5_166 rfl dX11_note_32 ?_
      refine r_bipush (v := 51) C dX11_note_35 (by decide) ?_
      refine lv_iload_n C.1.1 C.1.2.1 dX11_note_37 rfl (lv_at hl 3 rfl) ?_
      refine r_iadd C dX11_note_38 ?_
      refine r_iald C hw shM_8 ltM_8 (Nat.le_of_ble_eq_true rfl) dX11_note_39 hf (fun v39 hf => ?_)
      refine r_iast C hw shM_8 ltM_8 (Nat.le_of_ble_eq_true rfl) dX11_note_40 hf (fun S40 H locs hf hw => ?_)
      refine lv_iinc (v := iz (x3 + 1)) (lv' := [(3, .int (iz (x3 + 1))), (0, .ref (X.2.2 0)), (1, .int (iz x1)), (2, .int (iz x2))]) C.1.1 C.1.2.1 dX11_note_41 hl (k := 3) rfl (iz_add _ _) (by decide) rfl (fun ls hl => ?_)
      refine lv_goto (tgt := 14) C.1.1 C.1.2.1 dX11_note_44 (by decide) ?_
      exact ih x1 x2 (x3 + 1) S40 H locs ls hf hw (lv_sub hl [1, 2, 3, 0] rfl)
set_option maxRecDepth 100000 in
set_option maxHeartbeats 4000000 in
theorem c_X11_note (l : Launch) (X : XT) (hinj : XInj X nM) (hZ : ZOK (Zm X)) (N : Nat) (S : S2) (a1 : Int) (a2 : Int) (out : S2) (hf : f_X11_note N S a1 a2 = some out) : MV l X shM nM (Zm X) yX11_note cX11_note 4 none rmX11_note [.ref (X.2.2 0), .int (iz a1), .int (iz a2)] S out := by
  refine met_V (own := RX11) (by decide) rfl hinj hZ (Nat.le_of_ble_eq_true rfl) (fun p e s m args below meth c C ls H locs hw hl => ?_)
  unfold f_X11_note at hf
  have hl : lv_has ls 4 [(0, .ref (X.2.2 0)), (1, .int (iz a1)), (2, .int (iz a2))] := hl
  refine lv_aload_n C.1.1 C.1.2.1 dX11_note_0 rfl (lv_at hl 0 rfl) ?_
  refine r_getR (k := 22) C hw shM_0 ltM_0 cO11 rfl (by decide) tw5_166 rfl dX11_note_1 ?_
  refine r_bipush (v := 50) C dX11_note_4 (by decide) ?_
  refine r_iald C hw shM_8 ltM_8 (Nat.le_of_ble_eq_true rfl) dX11_note_6 hf (fun v6 hf => ?_)
  refine r_bipush (v := 60) C dX11_note_7 (by decide) ?_
  refine r_icmp_ne C (tgt := 58) dX11_note_9 (by decide) hf (fun hf => ?_) (fun hf => ?_)
  · exact (w_X11_note_58 l hinj hZ C out N) a1 a2 S H locs ls hf hw (lv_sub hl [0, 1, 2] rfl)
  · refine r_iconst (v := 3) C dX11_note_12 ?_
    refine lv_istore_n (lv' := [(3, .int (iz 3)), (0, .ref (X.2.2 0)), (1, .int (iz a1)), (2, .int (iz a2))]) C.1.1 C.1.2.1 dX11_note_13 rfl hl (by decide) rfl (fun ls hl => ?_)
    exact (w_X11_note_14 l hinj hZ C out (f_X11_note_47 N) (w_X11_note_47 l hinj hZ C out N) N) a1 a2 3 S H locs ls hf hw (lv_sub hl [1, 2, 3, 0] rfl)
def f_X11_act_25 (N : Nat) (x4 : Int) (y0 : Int) (y1 : Int) (S : S2) : Option (Int × S2) := bV (f_X11_note N S y1 y0) fun S25 => rI x4 S25
def f_X11_act (N : Nat) (S : S2) (a1 : Int) (a2 : Int) (a3 : Int) : Option (Int × S2) := bV (f_X11_keep N S) fun S1 => bI (f_X11_doNow N S1 a1 a2 a3) fun v8 S8 => cI a1 3 (if 3 < a1 then (f_X11_act_25 N) v8 a2 a1 S8 else (f_X11_act_25 N) v8 0 a1 S8)
abbrev rmX11_act : Room := { frames := 6, cells := 0, slots := 0, locals := 143 }
theorem hd_X11_act : yX11_act.cls ≠ "java/lang/invoke/MethodHandle" ∧ yX11_act.cls ≠ "java/lang/invoke/VarHandle" ∧ (parseMethodDescriptor yX11_act.desc).map (fun d => d.parameters.length) = some 3 := by decide +kernel
set_option maxRecDepth 100000 in
set_option maxHeartbeats 4000000 in
theorem w_X11_act_25 {p : Program} (l : Launch) {e : Env} {s : State} {m : MethodId} {args : Array Value} {below : List Frame} {meth : Method} {c : Code} {X : XT} (hinj : XInj X nM) (hZ : ZOK (Zm X)) (C : CX p s m args meth c cX11_act 5 RX11 (some .int) X nM (Zm X)) (out : Int × S2) : ∀ (N : Nat), ∀ (x4 : Int) (y0 : Int) (y1 : Int) (S : S2) (H : Heap) (locs : List Loc) (ls : Array Slot), f_X11_act_25 N x4 y0 y1 S = some out → WH X shM nM s S H locs → lv_has ls 5 [(4, .int (iz x4))] → W p l e rmX11_act s m args below meth c H locs 0 0 (QI X shM nM s args below out) (F0 m 25 ls [.int (iz y0), .int (iz y1), .ref (X.2.2 0)]) := by
  intro N x4 y0 y1 S H locs ls hf hw hl
  unfold f_X11_act_25 at hf
  refine r_callV (As := [.int (iz y1), .int (iz y0)]) (rest := []) (rm := rmX11_note) C hw shM_0 ltM_0 cO11 tw7_84 tw7_86 tp_90 tw1_12 tw7_87 hd_X11_note rfl ⟨⟨rfl, rfl⟩, Nat.le_of_ble_eq_true rfl, Nat.le_of_ble_eq_true rfl⟩ hl.1 rfl (Nat.le_of_ble_eq_true rfl) dX11_act_25 hf (fun o ho => c_X11_note l X hinj hZ N S y1 y0 o ho) (fun S25 H locs hf hw => ?_)
  refine lv_iload C.1.1 C.1.2.1 dX11_act_28 (lv_at hl 0 rfl) ?_
  exact r_retI C hw dX11_act_30 hf
set_option maxRecDepth 100000 in
set_option maxHeartbeats 4000000 in
theorem c_X11_act (l : Launch) (X : XT) (hinj : XInj X nM) (hZ : ZOK (Zm X)) (N : Nat) (S : S2) (a1 : Int) (a2 : Int) (a3 : Int) (out : Int × S2) (hf : f_X11_act N S a1 a2 a3 = some out) : MI l X shM nM (Zm X) yX11_act cX11_act 5 (some .int) rmX11_act [.ref (X.2.2 0), .int (iz a1), .int (iz a2), .int (iz a3)] S out := by
  refine met_I (own := RX11) (by decide) rfl hinj hZ (Nat.le_of_ble_eq_true rfl) (fun p e s m args below meth c C ls H locs hw hl => ?_)
  unfold f_X11_act at hf
  have hl : lv_has ls 5 [(0, .ref (X.2.2 0)), (1, .int (iz a1)), (2, .int (iz a2)), (3, .int (iz a3))] := hl
  refine lv_aload_n C.1.1 C.1.2.1 dX11_act_0 rfl (lv_at hl 0 rfl) ?_
  refine r_callV (As := []) (rest := []) (rm := rmX11_keep) C hw shM_0 ltM_0 cO11 tw6_216 tw6_218 tp_65 tw1_12 tw6_219 hd_X11_keep rfl ⟨⟨rfl, rfl⟩, Nat.le_of_ble_eq_true rfl, Nat.le_of_ble_eq_true rfl⟩ hl.1 rfl (Nat.le_of_ble_eq_true rfl) dX11_act_1 hf (fun o ho => c_X11_keep l X hinj hZ N S o ho) (fun S1 H locs hf hw => ?_)
  refine lv_aload_n C.1.1 C.1.2.1 dX11_act_4 rfl (lv_at hl 0 rfl) ?_
  refine lv_iload_n C.1.1 C.1.2.1 dX11_act_5 rfl (lv_at hl 1 rfl) ?_
  refine lv_iload_n C.1.1 C.1.2.1 dX11_act_6 rfl (lv_at hl 2 rfl) ?_
  refine lv_iload_n C.1.1 C.1.2.1 dX11_act_7 rfl (lv_at hl 3 rfl) ?_
  refine r_callI (As := [.int (iz a1), .int (iz a2), .int (iz a3)]) (rest := []) (rm := rmX11_doNow) C hw shM_0 ltM_0 cO11 tw6_220 tw6_222 tp_66 tw1_12 tw6_223 hd_X11_doNow rfl ⟨⟨rfl, rfl⟩, Nat.le_of_ble_eq_true rfl, Nat.le_of_ble_eq_true rfl⟩ hl.1 rfl (Nat.le_of_ble_eq_true rfl) dX11_act_8 hf (fun o ho => c_X11_doNow l X hinj hZ N S1 a1 a2 a3 o ho) (fun v8 S8 H locs hf hw => ?_)
  refine lv_istore (lv' := [(4, .int (iz v8)), (0, .ref (X.2.2 0)), (1, .int (iz a1)), (2, .int (iz a2)), (3, .int (iz a3))]) C.1.1 C.1.2.1 dX11_act_11 hl (by decide) rfl (fun ls hl => ?_)
  refine lv_aload_n C.1.1 C.1.2.1 dX11_act_13 rfl (lv_at hl 1 rfl) ?_
  refine lv_iload_n C.1.1 C.1.2.1 dX11_act_14 rfl (lv_at hl 2 rfl) ?_
  refine lv_iload_n C.1.1 C.1.2.1 dX11_act_15 rfl (lv_at hl 2 rfl) ?_
  refine r_iconst (v := 3) C dX11_act_16 ?_
  refine r_icmp_gt C (tgt := 24) dX11_act_17 (by decide) hf (fun hf => ?_) (fun hf => ?_)
  · refine lv_iload_n C.1.1 C.1.2.1 dX11_act_24 rfl (lv_at hl 3 rfl) ?_
    exact (w_X11_act_25 l hinj hZ C out N) v8 a2 a1 S8 H locs ls hf hw (lv_sub hl [0] rfl)
  · refine r_iconst (v := 0) C dX11_act_20 ?_
    refine lv_goto (tgt := 25) C.1.1 C.1.2.1 dX11_act_21 (by decide) ?_
    exact (w_X11_act_25 l hinj hZ C out N) v8 0 a1 S8 H locs ls hf hw (lv_sub hl [0] rfl)
def f_X11_hand (N : Nat) (S : S2) (a1 : Int) (a2 : Int) (a3 : Int) : Option (Int × S2) := bI (f_X11_whyNot N S a1 a2 a3) fun v4 S4 => cI v4 (-1) (if v4 = (-1) then bI (f_X11_act N S4 a1 a2 a3) fun v32 S32 => rI v32 S32 else aI S4 9 2 v4 fun v22 => sI S4 9 2 v4 (v22 + 1) fun S25 => rI (-1) S25)
abbrev rmX11_hand : Room := { frames := 7, cells := 0, slots := 0, locals := 167 }
theorem hd_X11_hand : yX11_hand.cls ≠ "java/lang/invoke/MethodHandle" ∧ yX11_hand.cls ≠ "java/lang/invoke/VarHandle" ∧ (parseMethodDescriptor yX11_hand.desc).map (fun d => d.parameters.length) = some 3 := by decide +kernel
set_option maxRecDepth 100000 in
set_option maxHeartbeats 4000000 in
theorem c_X11_hand (l : Launch) (X : XT) (hinj : XInj X nM) (hZ : ZOK (Zm X)) (N : Nat) (S : S2) (a1 : Int) (a2 : Int) (a3 : Int) (out : Int × S2) (hf : f_X11_hand N S a1 a2 a3 = some out) : MI l X shM nM (Zm X) yX11_hand cX11_hand 5 (some .int) rmX11_hand [.ref (X.2.2 0), .int (iz a1), .int (iz a2), .int (iz a3)] S out := by
  refine met_I (own := RX11) (by decide) rfl hinj hZ (Nat.le_of_ble_eq_true rfl) (fun p e s m args below meth c C ls H locs hw hl => ?_)
  unfold f_X11_hand at hf
  have hl : lv_has ls 5 [(0, .ref (X.2.2 0)), (1, .int (iz a1)), (2, .int (iz a2)), (3, .int (iz a3))] := hl
  refine lv_aload_n C.1.1 C.1.2.1 dX11_hand_0 rfl (lv_at hl 0 rfl) ?_
  refine lv_iload_n C.1.1 C.1.2.1 dX11_hand_1 rfl (lv_at hl 1 rfl) ?_
  refine lv_iload_n C.1.1 C.1.2.1 dX11_hand_2 rfl (lv_at hl 2 rfl) ?_
  refine lv_iload_n C.1.1 C.1.2.1 dX11_hand_3 rfl (lv_at hl 3 rfl) ?_
  refine r_callI (As := [.int (iz a1), .int (iz a2), .int (iz a3)]) (rest := []) (rm := rmX11_whyNot) C hw shM_0 ltM_0 cO11 tw6_204 tw6_206 tp_62 tw1_12 tw6_207 hd_X11_whyNot rfl ⟨⟨rfl, rfl⟩, Nat.le_of_ble_eq_true rfl, Nat.le_of_ble_eq_true rfl⟩ hl.1 rfl (Nat.le_of_ble_eq_true rfl) dX11_hand_4 hf (fun o ho => c_X11_whyNot l X hinj hZ N S a1 a2 a3 o ho) (fun v4 S4 H locs hf hw => ?_)
  refine lv_istore (lv' := [(4, .int (iz v4)), (0, .ref (X.2.2 0)), (1, .int (iz a1)), (2, .int (iz a2)), (3, .int (iz a3))]) C.1.1 C.1.2.1 dX11_hand_7 hl (by decide) rfl (fun ls hl => ?_)
  refine lv_iload C.1.1 C.1.2.1 dX11_hand_9 (lv_at hl 0 rfl) ?_
  refine r_iconst (v := (-1)) C dX11_hand_11 ?_
  refine r_icmp_eq C (tgt := 28) dX11_hand_12 (by decide) hf (fun hf => ?_) (fun hf => ?_)
  · refine lv_aload_n C.1.1 C.1.2.1 dX11_hand_28 rfl (lv_at hl 1 rfl) ?_
    refine lv_iload_n C.1.1 C.1.2.1 dX11_hand_29 rfl (lv_at hl 2 rfl) ?_
    refine lv_iload_n C.1.1 C.1.2.1 dX11_hand_30 rfl (lv_at hl 3 rfl) ?_
    refine lv_iload_n C.1.1 C.1.2.1 dX11_hand_31 rfl (lv_at hl 4 rfl) ?_
    refine r_callI (As := [.int (iz a1), .int (iz a2), .int (iz a3)]) (rest := []) (rm := rmX11_act) C hw shM_0 ltM_0 cO11 tw6_212 tw6_214 tp_64 tw1_12 tw6_215 hd_X11_act rfl ⟨⟨rfl, rfl⟩, Nat.le_of_ble_eq_true rfl, Nat.le_of_ble_eq_true rfl⟩ hl.1 rfl (Nat.le_of_ble_eq_true rfl) dX11_hand_32 hf (fun o ho => c_X11_act l X hinj hZ N S4 a1 a2 a3 o ho) (fun v32 S32 H locs hf hw => ?_)
    exact r_retI C hw dX11_hand_35 hf
  · refine lv_aload_n C.1.1 C.1.2.1 dX11_hand_15 rfl (lv_at hl 1 rfl) ?_
    refine r_getR (k := 23) C hw shM_0 ltM_0 cO11 rfl (by decide) tw5_167 rfl dX11_hand_16 ?_
    refine lv_iload C.1.1 C.1.2.1 dX11_hand_19 (lv_at hl 0 rfl) ?_
    refine lv_dup2_11 C.1.1 C.1.2.1 dX11_hand_21 rfl rfl ?_
    refine r_iald C hw shM_9 ltM_9 (Nat.le_of_ble_eq_true rfl) dX11_hand_22 hf (fun v22 hf => ?_)
    refine r_iconst (v := 1) C dX11_hand_23 ?_
    refine r_iadd C dX11_hand_24 ?_
    refine r_iast C hw shM_9 ltM_9 (Nat.le_of_ble_eq_true rfl) dX11_hand_25 hf (fun S25 H locs hf hw => ?_)
    refine r_iconst (v := (-1)) C dX11_hand_26 ?_
    exact r_retI C hw dX11_hand_27 hf
def f_X11_smooth (N : Nat) (S : S2) : Option (Int × S2) := bI (f_X11_hand N S 0 0 0) fun v4 S4 => rI v4 S4
abbrev rmX11_smooth : Room := { frames := 8, cells := 0, slots := 0, locals := 191 }
theorem hd_X11_smooth : yX11_smooth.cls ≠ "java/lang/invoke/MethodHandle" ∧ yX11_smooth.cls ≠ "java/lang/invoke/VarHandle" ∧ (parseMethodDescriptor yX11_smooth.desc).map (fun d => d.parameters.length) = some 0 := by decide +kernel
set_option maxRecDepth 100000 in
set_option maxHeartbeats 4000000 in
theorem c_X11_smooth (l : Launch) (X : XT) (hinj : XInj X nM) (hZ : ZOK (Zm X)) (N : Nat) (S : S2) (out : Int × S2) (hf : f_X11_smooth N S = some out) : MI l X shM nM (Zm X) yX11_smooth cX11_smooth 1 (some .int) rmX11_smooth [.ref (X.2.2 0)] S out := by
  refine met_I (own := RX11) (by decide) rfl hinj hZ (Nat.le_of_ble_eq_true rfl) (fun p e s m args below meth c C ls H locs hw hl => ?_)
  unfold f_X11_smooth at hf
  have hl : lv_has ls 1 [(0, .ref (X.2.2 0))] := hl
  refine lv_aload_n C.1.1 C.1.2.1 dX11_smooth_0 rfl (lv_at hl 0 rfl) ?_
  refine r_iconst (v := 0) C dX11_smooth_1 ?_
  refine r_iconst (v := 0) C dX11_smooth_2 ?_
  refine r_iconst (v := 0) C dX11_smooth_3 ?_
  refine r_callI (As := [.int (iz 0), .int (iz 0), .int (iz 0)]) (rest := []) (rm := rmX11_hand) C hw shM_0 ltM_0 cO11 tw6_200 tw6_202 tp_61 tw1_12 tw6_203 hd_X11_hand rfl ⟨⟨rfl, rfl⟩, Nat.le_of_ble_eq_true rfl, Nat.le_of_ble_eq_true rfl⟩ hl.1 rfl (Nat.le_of_ble_eq_true rfl) dX11_smooth_4 hf (fun o ho => c_X11_hand l X hinj hZ N S 0 0 0 o ho) (fun v4 S4 H locs hf hw => ?_)
  exact r_retI C hw dX11_smooth_7 hf
def f_X11_median (N : Nat) (S : S2) : Option (Int × S2) := bI (f_X11_hand N S 1 0 0) fun v4 S4 => rI v4 S4
abbrev rmX11_median : Room := { frames := 8, cells := 0, slots := 0, locals := 191 }
theorem hd_X11_median : yX11_median.cls ≠ "java/lang/invoke/MethodHandle" ∧ yX11_median.cls ≠ "java/lang/invoke/VarHandle" ∧ (parseMethodDescriptor yX11_median.desc).map (fun d => d.parameters.length) = some 0 := by decide +kernel
set_option maxRecDepth 100000 in
set_option maxHeartbeats 4000000 in
theorem c_X11_median (l : Launch) (X : XT) (hinj : XInj X nM) (hZ : ZOK (Zm X)) (N : Nat) (S : S2) (out : Int × S2) (hf : f_X11_median N S = some out) : MI l X shM nM (Zm X) yX11_median cX11_median 1 (some .int) rmX11_median [.ref (X.2.2 0)] S out := by
  refine met_I (own := RX11) (by decide) rfl hinj hZ (Nat.le_of_ble_eq_true rfl) (fun p e s m args below meth c C ls H locs hw hl => ?_)
  unfold f_X11_median at hf
  have hl : lv_has ls 1 [(0, .ref (X.2.2 0))] := hl
  refine lv_aload_n C.1.1 C.1.2.1 dX11_median_0 rfl (lv_at hl 0 rfl) ?_
  refine r_iconst (v := 1) C dX11_median_1 ?_
  refine r_iconst (v := 0) C dX11_median_2 ?_
  refine r_iconst (v := 0) C dX11_median_3 ?_
  refine r_callI (As := [.int (iz 1), .int (iz 0), .int (iz 0)]) (rest := []) (rm := rmX11_hand) C hw shM_0 ltM_0 cO11 tw6_200 tw6_202 tp_61 tw1_12 tw6_203 hd_X11_hand rfl ⟨⟨rfl, rfl⟩, Nat.le_of_ble_eq_true rfl, Nat.le_of_ble_eq_true rfl⟩ hl.1 rfl (Nat.le_of_ble_eq_true rfl) dX11_median_4 hf (fun o ho => c_X11_hand l X hinj hZ N S 1 0 0 o ho) (fun v4 S4 H locs hf hw => ?_)
  exact r_retI C hw dX11_median_7 hf
def f_X11_flat (N : Nat) (S : S2) : Option (Int × S2) := bI (f_X11_hand N S 2 0 0) fun v4 S4 => rI v4 S4
abbrev rmX11_flat : Room := { frames := 8, cells := 0, slots := 0, locals := 191 }
theorem hd_X11_flat : yX11_flat.cls ≠ "java/lang/invoke/MethodHandle" ∧ yX11_flat.cls ≠ "java/lang/invoke/VarHandle" ∧ (parseMethodDescriptor yX11_flat.desc).map (fun d => d.parameters.length) = some 0 := by decide +kernel
set_option maxRecDepth 100000 in
set_option maxHeartbeats 4000000 in
theorem c_X11_flat (l : Launch) (X : XT) (hinj : XInj X nM) (hZ : ZOK (Zm X)) (N : Nat) (S : S2) (out : Int × S2) (hf : f_X11_flat N S = some out) : MI l X shM nM (Zm X) yX11_flat cX11_flat 1 (some .int) rmX11_flat [.ref (X.2.2 0)] S out := by
  refine met_I (own := RX11) (by decide) rfl hinj hZ (Nat.le_of_ble_eq_true rfl) (fun p e s m args below meth c C ls H locs hw hl => ?_)
  unfold f_X11_flat at hf
  have hl : lv_has ls 1 [(0, .ref (X.2.2 0))] := hl
  refine lv_aload_n C.1.1 C.1.2.1 dX11_flat_0 rfl (lv_at hl 0 rfl) ?_
  refine r_iconst (v := 2) C dX11_flat_1 ?_
  refine r_iconst (v := 0) C dX11_flat_2 ?_
  refine r_iconst (v := 0) C dX11_flat_3 ?_
  refine r_callI (As := [.int (iz 2), .int (iz 0), .int (iz 0)]) (rest := []) (rm := rmX11_hand) C hw shM_0 ltM_0 cO11 tw6_200 tw6_202 tp_61 tw1_12 tw6_203 hd_X11_hand rfl ⟨⟨rfl, rfl⟩, Nat.le_of_ble_eq_true rfl, Nat.le_of_ble_eq_true rfl⟩ hl.1 rfl (Nat.le_of_ble_eq_true rfl) dX11_flat_4 hf (fun o ho => c_X11_hand l X hinj hZ N S 2 0 0 o ho) (fun v4 S4 H locs hf hw => ?_)
  exact r_retI C hw dX11_flat_7 hf
def f_X11_turn (N : Nat) (S : S2) : Option (Int × S2) := bI (f_X11_hand N S 3 0 0) fun v4 S4 => rI v4 S4
abbrev rmX11_turn : Room := { frames := 8, cells := 0, slots := 0, locals := 191 }
theorem hd_X11_turn : yX11_turn.cls ≠ "java/lang/invoke/MethodHandle" ∧ yX11_turn.cls ≠ "java/lang/invoke/VarHandle" ∧ (parseMethodDescriptor yX11_turn.desc).map (fun d => d.parameters.length) = some 0 := by decide +kernel
set_option maxRecDepth 100000 in
set_option maxHeartbeats 4000000 in
theorem c_X11_turn (l : Launch) (X : XT) (hinj : XInj X nM) (hZ : ZOK (Zm X)) (N : Nat) (S : S2) (out : Int × S2) (hf : f_X11_turn N S = some out) : MI l X shM nM (Zm X) yX11_turn cX11_turn 1 (some .int) rmX11_turn [.ref (X.2.2 0)] S out := by
  refine met_I (own := RX11) (by decide) rfl hinj hZ (Nat.le_of_ble_eq_true rfl) (fun p e s m args below meth c C ls H locs hw hl => ?_)
  unfold f_X11_turn at hf
  have hl : lv_has ls 1 [(0, .ref (X.2.2 0))] := hl
  refine lv_aload_n C.1.1 C.1.2.1 dX11_turn_0 rfl (lv_at hl 0 rfl) ?_
  refine r_iconst (v := 3) C dX11_turn_1 ?_
  refine r_iconst (v := 0) C dX11_turn_2 ?_
  refine r_iconst (v := 0) C dX11_turn_3 ?_
  refine r_callI (As := [.int (iz 3), .int (iz 0), .int (iz 0)]) (rest := []) (rm := rmX11_hand) C hw shM_0 ltM_0 cO11 tw6_200 tw6_202 tp_61 tw1_12 tw6_203 hd_X11_hand rfl ⟨⟨rfl, rfl⟩, Nat.le_of_ble_eq_true rfl, Nat.le_of_ble_eq_true rfl⟩ hl.1 rfl (Nat.le_of_ble_eq_true rfl) dX11_turn_4 hf (fun o ho => c_X11_hand l X hinj hZ N S 3 0 0 o ho) (fun v4 S4 H locs hf hw => ?_)
  exact r_retI C hw dX11_turn_7 hf
def f_X11_clip (N : Nat) (S : S2) (a1 : Int) : Option (Int × S2) := bI (f_X11_hand N S 4 a1 0) fun v4 S4 => rI v4 S4
abbrev rmX11_clip : Room := { frames := 8, cells := 0, slots := 0, locals := 191 }
theorem hd_X11_clip : yX11_clip.cls ≠ "java/lang/invoke/MethodHandle" ∧ yX11_clip.cls ≠ "java/lang/invoke/VarHandle" ∧ (parseMethodDescriptor yX11_clip.desc).map (fun d => d.parameters.length) = some 1 := by decide +kernel
set_option maxRecDepth 100000 in
set_option maxHeartbeats 4000000 in
theorem c_X11_clip (l : Launch) (X : XT) (hinj : XInj X nM) (hZ : ZOK (Zm X)) (N : Nat) (S : S2) (a1 : Int) (out : Int × S2) (hf : f_X11_clip N S a1 = some out) : MI l X shM nM (Zm X) yX11_clip cX11_clip 2 (some .int) rmX11_clip [.ref (X.2.2 0), .int (iz a1)] S out := by
  refine met_I (own := RX11) (by decide) rfl hinj hZ (Nat.le_of_ble_eq_true rfl) (fun p e s m args below meth c C ls H locs hw hl => ?_)
  unfold f_X11_clip at hf
  have hl : lv_has ls 2 [(0, .ref (X.2.2 0)), (1, .int (iz a1))] := hl
  refine lv_aload_n C.1.1 C.1.2.1 dX11_clip_0 rfl (lv_at hl 0 rfl) ?_
  refine r_iconst (v := 4) C dX11_clip_1 ?_
  refine lv_iload_n C.1.1 C.1.2.1 dX11_clip_2 rfl (lv_at hl 1 rfl) ?_
  refine r_iconst (v := 0) C dX11_clip_3 ?_
  refine r_callI (As := [.int (iz 4), .int (iz a1), .int (iz 0)]) (rest := []) (rm := rmX11_hand) C hw shM_0 ltM_0 cO11 tw6_200 tw6_202 tp_61 tw1_12 tw6_203 hd_X11_hand rfl ⟨⟨rfl, rfl⟩, Nat.le_of_ble_eq_true rfl, Nat.le_of_ble_eq_true rfl⟩ hl.1 rfl (Nat.le_of_ble_eq_true rfl) dX11_clip_4 hf (fun o ho => c_X11_hand l X hinj hZ N S 4 a1 0 o ho) (fun v4 S4 H locs hf hw => ?_)
  exact r_retI C hw dX11_clip_7 hf
def f_X11_lift (N : Nat) (S : S2) (a1 : Int) : Option (Int × S2) := bI (f_X11_hand N S 5 a1 0) fun v4 S4 => rI v4 S4
abbrev rmX11_lift : Room := { frames := 8, cells := 0, slots := 0, locals := 191 }
theorem hd_X11_lift : yX11_lift.cls ≠ "java/lang/invoke/MethodHandle" ∧ yX11_lift.cls ≠ "java/lang/invoke/VarHandle" ∧ (parseMethodDescriptor yX11_lift.desc).map (fun d => d.parameters.length) = some 1 := by decide +kernel
set_option maxRecDepth 100000 in
set_option maxHeartbeats 4000000 in
theorem c_X11_lift (l : Launch) (X : XT) (hinj : XInj X nM) (hZ : ZOK (Zm X)) (N : Nat) (S : S2) (a1 : Int) (out : Int × S2) (hf : f_X11_lift N S a1 = some out) : MI l X shM nM (Zm X) yX11_lift cX11_lift 2 (some .int) rmX11_lift [.ref (X.2.2 0), .int (iz a1)] S out := by
  refine met_I (own := RX11) (by decide) rfl hinj hZ (Nat.le_of_ble_eq_true rfl) (fun p e s m args below meth c C ls H locs hw hl => ?_)
  unfold f_X11_lift at hf
  have hl : lv_has ls 2 [(0, .ref (X.2.2 0)), (1, .int (iz a1))] := hl
  refine lv_aload_n C.1.1 C.1.2.1 dX11_lift_0 rfl (lv_at hl 0 rfl) ?_
  refine r_iconst (v := 5) C dX11_lift_1 ?_
  refine lv_iload_n C.1.1 C.1.2.1 dX11_lift_2 rfl (lv_at hl 1 rfl) ?_
  refine r_iconst (v := 0) C dX11_lift_3 ?_
  refine r_callI (As := [.int (iz 5), .int (iz a1), .int (iz 0)]) (rest := []) (rm := rmX11_hand) C hw shM_0 ltM_0 cO11 tw6_200 tw6_202 tp_61 tw1_12 tw6_203 hd_X11_hand rfl ⟨⟨rfl, rfl⟩, Nat.le_of_ble_eq_true rfl, Nat.le_of_ble_eq_true rfl⟩ hl.1 rfl (Nat.le_of_ble_eq_true rfl) dX11_lift_4 hf (fun o ho => c_X11_hand l X hinj hZ N S 5 a1 0 o ho) (fun v4 S4 H locs hf hw => ?_)
  exact r_retI C hw dX11_lift_7 hf
def f_X11_scale (N : Nat) (S : S2) (a1 : Int) (a2 : Int) : Option (Int × S2) := bI (f_X11_hand N S 6 a1 a2) fun v5 S5 => rI v5 S5
abbrev rmX11_scale : Room := { frames := 8, cells := 0, slots := 0, locals := 191 }
theorem hd_X11_scale : yX11_scale.cls ≠ "java/lang/invoke/MethodHandle" ∧ yX11_scale.cls ≠ "java/lang/invoke/VarHandle" ∧ (parseMethodDescriptor yX11_scale.desc).map (fun d => d.parameters.length) = some 2 := by decide +kernel
set_option maxRecDepth 100000 in
set_option maxHeartbeats 4000000 in
theorem c_X11_scale (l : Launch) (X : XT) (hinj : XInj X nM) (hZ : ZOK (Zm X)) (N : Nat) (S : S2) (a1 : Int) (a2 : Int) (out : Int × S2) (hf : f_X11_scale N S a1 a2 = some out) : MI l X shM nM (Zm X) yX11_scale cX11_scale 3 (some .int) rmX11_scale [.ref (X.2.2 0), .int (iz a1), .int (iz a2)] S out := by
  refine met_I (own := RX11) (by decide) rfl hinj hZ (Nat.le_of_ble_eq_true rfl) (fun p e s m args below meth c C ls H locs hw hl => ?_)
  unfold f_X11_scale at hf
  have hl : lv_has ls 3 [(0, .ref (X.2.2 0)), (1, .int (iz a1)), (2, .int (iz a2))] := hl
  refine lv_aload_n C.1.1 C.1.2.1 dX11_scale_0 rfl (lv_at hl 0 rfl) ?_
  refine r_bipush (v := 6) C dX11_scale_1 (by decide) ?_
  refine lv_iload_n C.1.1 C.1.2.1 dX11_scale_3 rfl (lv_at hl 1 rfl) ?_
  refine lv_iload_n C.1.1 C.1.2.1 dX11_scale_4 rfl (lv_at hl 2 rfl) ?_
  refine r_callI (As := [.int (iz 6), .int (iz a1), .int (iz a2)]) (rest := []) (rm := rmX11_hand) C hw shM_0 ltM_0 cO11 tw6_200 tw6_202 tp_61 tw1_12 tw6_203 hd_X11_hand rfl ⟨⟨rfl, rfl⟩, Nat.le_of_ble_eq_true rfl, Nat.le_of_ble_eq_true rfl⟩ hl.1 rfl (Nat.le_of_ble_eq_true rfl) dX11_scale_5 hf (fun o ho => c_X11_hand l X hinj hZ N S 6 a1 a2 o ho) (fun v5 S5 H locs hf hw => ?_)
  exact r_retI C hw dX11_scale_8 hf
def f_X11_set (N : Nat) (S : S2) (a1 : Int) (a2 : Int) : Option (Int × S2) := bI (f_X11_hand N S 7 a1 a2) fun v5 S5 => rI v5 S5
abbrev rmX11_set : Room := { frames := 8, cells := 0, slots := 0, locals := 191 }
theorem hd_X11_set : yX11_set.cls ≠ "java/lang/invoke/MethodHandle" ∧ yX11_set.cls ≠ "java/lang/invoke/VarHandle" ∧ (parseMethodDescriptor yX11_set.desc).map (fun d => d.parameters.length) = some 2 := by decide +kernel
set_option maxRecDepth 100000 in
set_option maxHeartbeats 4000000 in
theorem c_X11_set (l : Launch) (X : XT) (hinj : XInj X nM) (hZ : ZOK (Zm X)) (N : Nat) (S : S2) (a1 : Int) (a2 : Int) (out : Int × S2) (hf : f_X11_set N S a1 a2 = some out) : MI l X shM nM (Zm X) yX11_set cX11_set 3 (some .int) rmX11_set [.ref (X.2.2 0), .int (iz a1), .int (iz a2)] S out := by
  refine met_I (own := RX11) (by decide) rfl hinj hZ (Nat.le_of_ble_eq_true rfl) (fun p e s m args below meth c C ls H locs hw hl => ?_)
  unfold f_X11_set at hf
  have hl : lv_has ls 3 [(0, .ref (X.2.2 0)), (1, .int (iz a1)), (2, .int (iz a2))] := hl
  refine lv_aload_n C.1.1 C.1.2.1 dX11_set_0 rfl (lv_at hl 0 rfl) ?_
  refine r_bipush (v := 7) C dX11_set_1 (by decide) ?_
  refine lv_iload_n C.1.1 C.1.2.1 dX11_set_3 rfl (lv_at hl 1 rfl) ?_
  refine lv_iload_n C.1.1 C.1.2.1 dX11_set_4 rfl (lv_at hl 2 rfl) ?_
  refine r_callI (As := [.int (iz 7), .int (iz a1), .int (iz a2)]) (rest := []) (rm := rmX11_hand) C hw shM_0 ltM_0 cO11 tw6_200 tw6_202 tp_61 tw1_12 tw6_203 hd_X11_hand rfl ⟨⟨rfl, rfl⟩, Nat.le_of_ble_eq_true rfl, Nat.le_of_ble_eq_true rfl⟩ hl.1 rfl (Nat.le_of_ble_eq_true rfl) dX11_set_5 hf (fun o ho => c_X11_hand l X hinj hZ N S 7 a1 a2 o ho) (fun v5 S5 H locs hf hw => ?_)
  exact r_retI C hw dX11_set_8 hf
def f_X11_noise (N : Nat) (S : S2) (a1 : Int) : Option (Int × S2) := bI (f_X11_hand N S 8 a1 0) fun v5 S5 => rI v5 S5
abbrev rmX11_noise : Room := { frames := 8, cells := 0, slots := 0, locals := 191 }
theorem hd_X11_noise : yX11_noise.cls ≠ "java/lang/invoke/MethodHandle" ∧ yX11_noise.cls ≠ "java/lang/invoke/VarHandle" ∧ (parseMethodDescriptor yX11_noise.desc).map (fun d => d.parameters.length) = some 1 := by decide +kernel
set_option maxRecDepth 100000 in
set_option maxHeartbeats 4000000 in
theorem c_X11_noise (l : Launch) (X : XT) (hinj : XInj X nM) (hZ : ZOK (Zm X)) (N : Nat) (S : S2) (a1 : Int) (out : Int × S2) (hf : f_X11_noise N S a1 = some out) : MI l X shM nM (Zm X) yX11_noise cX11_noise 2 (some .int) rmX11_noise [.ref (X.2.2 0), .int (iz a1)] S out := by
  refine met_I (own := RX11) (by decide) rfl hinj hZ (Nat.le_of_ble_eq_true rfl) (fun p e s m args below meth c C ls H locs hw hl => ?_)
  unfold f_X11_noise at hf
  have hl : lv_has ls 2 [(0, .ref (X.2.2 0)), (1, .int (iz a1))] := hl
  refine lv_aload_n C.1.1 C.1.2.1 dX11_noise_0 rfl (lv_at hl 0 rfl) ?_
  refine r_bipush (v := 8) C dX11_noise_1 (by decide) ?_
  refine lv_iload_n C.1.1 C.1.2.1 dX11_noise_3 rfl (lv_at hl 1 rfl) ?_
  refine r_iconst (v := 0) C dX11_noise_4 ?_
  refine r_callI (As := [.int (iz 8), .int (iz a1), .int (iz 0)]) (rest := []) (rm := rmX11_hand) C hw shM_0 ltM_0 cO11 tw6_200 tw6_202 tp_61 tw1_12 tw6_203 hd_X11_hand rfl ⟨⟨rfl, rfl⟩, Nat.le_of_ble_eq_true rfl, Nat.le_of_ble_eq_true rfl⟩ hl.1 rfl (Nat.le_of_ble_eq_true rfl) dX11_noise_5 hf (fun o ho => c_X11_hand l X hinj hZ N S 8 a1 0 o ho) (fun v5 S5 H locs hf hw => ?_)
  exact r_retI C hw dX11_noise_8 hf
def f_X11_cut (N : Nat) (S : S2) (a1 : Int) (a2 : Int) : Option (Int × S2) := bI (f_X11_hand N S 9 a1 a2) fun v5 S5 => rI v5 S5
abbrev rmX11_cut : Room := { frames := 8, cells := 0, slots := 0, locals := 191 }
theorem hd_X11_cut : yX11_cut.cls ≠ "java/lang/invoke/MethodHandle" ∧ yX11_cut.cls ≠ "java/lang/invoke/VarHandle" ∧ (parseMethodDescriptor yX11_cut.desc).map (fun d => d.parameters.length) = some 2 := by decide +kernel
set_option maxRecDepth 100000 in
set_option maxHeartbeats 4000000 in
theorem c_X11_cut (l : Launch) (X : XT) (hinj : XInj X nM) (hZ : ZOK (Zm X)) (N : Nat) (S : S2) (a1 : Int) (a2 : Int) (out : Int × S2) (hf : f_X11_cut N S a1 a2 = some out) : MI l X shM nM (Zm X) yX11_cut cX11_cut 3 (some .int) rmX11_cut [.ref (X.2.2 0), .int (iz a1), .int (iz a2)] S out := by
  refine met_I (own := RX11) (by decide) rfl hinj hZ (Nat.le_of_ble_eq_true rfl) (fun p e s m args below meth c C ls H locs hw hl => ?_)
  unfold f_X11_cut at hf
  have hl : lv_has ls 3 [(0, .ref (X.2.2 0)), (1, .int (iz a1)), (2, .int (iz a2))] := hl
  refine lv_aload_n C.1.1 C.1.2.1 dX11_cut_0 rfl (lv_at hl 0 rfl) ?_
  refine r_bipush (v := 9) C dX11_cut_1 (by decide) ?_
  refine lv_iload_n C.1.1 C.1.2.1 dX11_cut_3 rfl (lv_at hl 1 rfl) ?_
  refine lv_iload_n C.1.1 C.1.2.1 dX11_cut_4 rfl (lv_at hl 2 rfl) ?_
  refine r_callI (As := [.int (iz 9), .int (iz a1), .int (iz a2)]) (rest := []) (rm := rmX11_hand) C hw shM_0 ltM_0 cO11 tw6_200 tw6_202 tp_61 tw1_12 tw6_203 hd_X11_hand rfl ⟨⟨rfl, rfl⟩, Nat.le_of_ble_eq_true rfl, Nat.le_of_ble_eq_true rfl⟩ hl.1 rfl (Nat.le_of_ble_eq_true rfl) dX11_cut_5 hf (fun o ho => c_X11_hand l X hinj hZ N S 9 a1 a2 o ho) (fun v5 S5 H locs hf hw => ?_)
  exact r_retI C hw dX11_cut_8 hf
def f_X11_drawWay (N : Nat) (S : S2) : Option (S2) := bI (f_X11_draw N S 8) fun v3 S3 => cI v3 3 (if 3 ≤ v3 then cI v3 6 (if 6 ≤ v3 then cI v3 6 (if v3 = 6 then bI (f_X11_draw N S3 200) fun v69 S69 => bI (f_X11_act N S69 8 v69 0) fun v73 S73 => rV S73 else bI (f_X11_draw N S3 100) fun v83 S83 => bI (f_X11_draw N S83 9) fun v94 S94 => bI (f_X11_act N S94 6 v83 (v94 + 1)) fun v99 S99 => rV S99) else bI (f_X11_many N S3) fun v31 S31 => bI (f_X11_draw N S31 v31) fun v34 S34 => bI (f_X11_draw N S34 1000) fun v46 S46 => bI (f_X11_act N S46 7 v34 v46) fun v49 S49 => rV S49) else bI (f_X11_act N S3 v3 0 0) fun v16 S16 => rV S16)
abbrev rmX11_drawWay : Room := { frames := 7, cells := 0, slots := 0, locals := 167 }
theorem hd_X11_drawWay : yX11_drawWay.cls ≠ "java/lang/invoke/MethodHandle" ∧ yX11_drawWay.cls ≠ "java/lang/invoke/VarHandle" ∧ (parseMethodDescriptor yX11_drawWay.desc).map (fun d => d.parameters.length) = some 0 := by decide +kernel
set_option maxRecDepth 100000 in
set_option maxHeartbeats 4000000 in
theorem c_X11_drawWay (l : Launch) (X : XT) (hinj : XInj X nM) (hZ : ZOK (Zm X)) (N : Nat) (S : S2) (out : S2) (hf : f_X11_drawWay N S = some out) : MV l X shM nM (Zm X) yX11_drawWay cX11_drawWay 3 none rmX11_drawWay [.ref (X.2.2 0)] S out := by
  refine met_V (own := RX11) (by decide) rfl hinj hZ (Nat.le_of_ble_eq_true rfl) (fun p e s m args below meth c C ls H locs hw hl => ?_)
  unfold f_X11_drawWay at hf
  have hl : lv_has ls 3 [(0, .ref (X.2.2 0))] := hl
  refine lv_aload_n C.1.1 C.1.2.1 dX11_drawWay_0 rfl (lv_at hl 0 rfl) ?_
  refine r_bipush (v := 8) C dX11_drawWay_1 (by decide) ?_
  refine r_callI (As := [.int (iz 8)]) (rest := []) (rm := rmX11_draw) C hw shM_0 ltM_0 cO11 tw7_132 tw7_134 tp_92 tw1_12 tw7_135 hd_X11_draw rfl ⟨⟨rfl, rfl⟩, Nat.le_of_ble_eq_true rfl, Nat.le_of_ble_eq_true rfl⟩ hl.1 rfl (Nat.le_of_ble_eq_true rfl) dX11_drawWay_3 hf (fun o ho => c_X11_draw l X hinj hZ N S 8 o ho) (fun v3 S3 H locs hf hw => ?_)
  refine lv_istore_n (lv' := [(1, .int (iz v3)), (0, .ref (X.2.2 0))]) C.1.1 C.1.2.1 dX11_drawWay_6 rfl hl (by decide) rfl (fun ls hl => ?_)
  refine lv_iload_n C.1.1 C.1.2.1 dX11_drawWay_7 rfl (lv_at hl 0 rfl) ?_
  refine r_iconst (v := 3) C dX11_drawWay_8 ?_
  refine r_icmp_ge C (tgt := 23) dX11_drawWay_9 (by decide) hf (fun hf => ?_) (fun hf => ?_)
  · refine lv_iload_n C.1.1 C.1.2.1 dX11_drawWay_23 rfl (lv_at hl 0 rfl) ?_
    refine r_bipush (v := 6) C dX11_drawWay_24 (by decide) ?_
    refine r_icmp_ge C (tgt := 56) dX11_drawWay_26 (by decide) hf (fun hf => ?_) (fun hf => ?_)
    · refine lv_iload_n C.1.1 C.1.2.1 dX11_drawWay_56 rfl (lv_at hl 0 rfl) ?_
      refine r_bipush (v := 6) C dX11_drawWay_57 (by decide) ?_
      refine r_icmp_ne C (tgt := 80) dX11_drawWay_59 (by decide) hf (fun hf => ?_) (fun hf => ?_)
      · refine lv_aload_n C.1.1 C.1.2.1 dX11_drawWay_80 rfl (lv_at hl 1 rfl) ?_
        refine r_bipush (v := 100) C dX11_drawWay_81 (by decide) ?_
        refine r_callI (As := [.int (iz 100)]) (rest := []) (rm := rmX11_draw) C hw shM_0 ltM_0 cO11 tw7_132 tw7_134 tp_92 tw1_12 tw7_135 hd_X11_draw rfl ⟨⟨rfl, rfl⟩, Nat.le_of_ble_eq_true rfl, Nat.le_of_ble_eq_true rfl⟩ hl.1 rfl (Nat.le_of_ble_eq_true rfl) dX11_drawWay_83 hf (fun o ho => c_X11_draw l X hinj hZ N S3 100 o ho) (fun v83 S83 H locs hf hw => ?_)
        refine lv_istore_n (lv' := [(2, .int (iz v83)), (1, .int (iz v3)), (0, .ref (X.2.2 0))]) C.1.1 C.1.2.1 dX11_drawWay_86 rfl hl (by decide) rfl (fun ls hl => ?_)
        refine lv_aload_n C.1.1 C.1.2.1 dX11_drawWay_87 rfl (lv_at hl 2 rfl) ?_
        refine r_bipush (v := 6) C dX11_drawWay_88 (by decide) ?_
        refine lv_iload_n C.1.1 C.1.2.1 dX11_drawWay_90 rfl (lv_at hl 0 rfl) ?_
        refine lv_aload_n C.1.1 C.1.2.1 dX11_drawWay_91 rfl (lv_at hl 2 rfl) ?_
        refine r_bipush (v := 9) C dX11_drawWay_92 (by decide) ?_
        refine r_callI (As := [.int (iz 9)]) (rest := [.int (iz v83), .int (iz 6), .ref (X.2.2 0)]) (rm := rmX11_draw) C hw shM_0 ltM_0 cO11 tw7_132 tw7_134 tp_92 tw1_12 tw7_135 hd_X11_draw rfl ⟨⟨rfl, rfl⟩, Nat.le_of_ble_eq_true rfl, Nat.le_of_ble_eq_true rfl⟩ hl.1 rfl (Nat.le_of_ble_eq_true rfl) dX11_drawWay_94 hf (fun o ho => c_X11_draw l X hinj hZ N S83 9 o ho) (fun v94 S94 H locs hf hw => ?_)
        refine r_iconst (v := 1) C dX11_drawWay_97 ?_
        refine r_iadd C dX11_drawWay_98 ?_
        refine r_callI (As := [.int (iz 6), .int (iz v83), .int (iz (v94 + 1))]) (rest := []) (rm := rmX11_act) C hw shM_0 ltM_0 cO11 tw6_212 tw6_214 tp_64 tw1_12 tw6_215 hd_X11_act rfl ⟨⟨rfl, rfl⟩, Nat.le_of_ble_eq_true rfl, Nat.le_of_ble_eq_true rfl⟩ hl.1 rfl (Nat.le_of_ble_eq_true rfl) dX11_drawWay_99 hf (fun o ho => c_X11_act l X hinj hZ N S94 6 v83 (v94 + 1) o ho) (fun v99 S99 H locs hf hw => ?_)
        refine lv_pop C.1.1 C.1.2.1 dX11_drawWay_102 rfl ?_
        exact r_retV C hw dX11_drawWay_103 hf
      · refine lv_aload_n C.1.1 C.1.2.1 dX11_drawWay_62 rfl (lv_at hl 1 rfl) ?_
        refine r_bipush (v := 8) C dX11_drawWay_63 (by decide) ?_
        refine lv_aload_n C.1.1 C.1.2.1 dX11_drawWay_65 rfl (lv_at hl 1 rfl) ?_
        refine r_sipush (v := 200) C dX11_drawWay_66 (by decide) ?_
        refine r_callI (As := [.int (iz 200)]) (rest := [.int (iz 8), .ref (X.2.2 0)]) (rm := rmX11_draw) C hw shM_0 ltM_0 cO11 tw7_132 tw7_134 tp_92 tw1_12 tw7_135 hd_X11_draw rfl ⟨⟨rfl, rfl⟩, Nat.le_of_ble_eq_true rfl, Nat.le_of_ble_eq_true rfl⟩ hl.1 rfl (Nat.le_of_ble_eq_true rfl) dX11_drawWay_69 hf (fun o ho => c_X11_draw l X hinj hZ N S3 200 o ho) (fun v69 S69 H locs hf hw => ?_)
        refine r_iconst (v := 0) C dX11_drawWay_72 ?_
        refine r_callI (As := [.int (iz 8), .int (iz v69), .int (iz 0)]) (rest := []) (rm := rmX11_act) C hw shM_0 ltM_0 cO11 tw6_212 tw6_214 tp_64 tw1_12 tw6_215 hd_X11_act rfl ⟨⟨rfl, rfl⟩, Nat.le_of_ble_eq_true rfl, Nat.le_of_ble_eq_true rfl⟩ hl.1 rfl (Nat.le_of_ble_eq_true rfl) dX11_drawWay_73 hf (fun o ho => c_X11_act l X hinj hZ N S69 8 v69 0 o ho) (fun v73 S73 H locs hf hw => ?_)
        refine lv_pop C.1.1 C.1.2.1 dX11_drawWay_76 rfl ?_
        refine lv_goto (tgt := 103) C.1.1 C.1.2.1 dX11_drawWay_77 (by decide) ?_
        exact r_retV C hw dX11_drawWay_103 hf
    · refine lv_aload_n C.1.1 C.1.2.1 dX11_drawWay_29 rfl (lv_at hl 1 rfl) ?_
      refine lv_aload_n C.1.1 C.1.2.1 dX11_drawWay_30 rfl (lv_at hl 1 rfl) ?_
      refine r_callI (As := []) (rest := [.ref (X.2.2 0)]) (rm := rmX11_many) C hw shM_0 ltM_0 cO11 tw6_192 tw6_194 tp_60 tw1_12 tw6_195 hd_X11_many rfl ⟨⟨rfl, rfl⟩, Nat.le_of_ble_eq_true rfl, Nat.le_of_ble_eq_true rfl⟩ hl.1 rfl (Nat.le_of_ble_eq_true rfl) dX11_drawWay_31 hf (fun o ho => c_X11_many l X hinj hZ N S3 o ho) (fun v31 S31 H locs hf hw => ?_)
      refine r_callI (As := [.int (iz v31)]) (rest := []) (rm := rmX11_draw) C hw shM_0 ltM_0 cO11 tw7_132 tw7_134 tp_92 tw1_12 tw7_135 hd_X11_draw rfl ⟨⟨rfl, rfl⟩, Nat.le_of_ble_eq_true rfl, Nat.le_of_ble_eq_true rfl⟩ hl.1 rfl (Nat.le_of_ble_eq_true rfl) dX11_drawWay_34 hf (fun o ho => c_X11_draw l X hinj hZ N S31 v31 o ho) (fun v34 S34 H locs hf hw => ?_)
      refine lv_istore_n (lv' := [(2, .int (iz v34)), (1, .int (iz v3)), (0, .ref (X.2.2 0))]) C.1.1 C.1.2.1 dX11_drawWay_37 rfl hl (by decide) rfl (fun ls hl => ?_)
      refine lv_aload_n C.1.1 C.1.2.1 dX11_drawWay_38 rfl (lv_at hl 2 rfl) ?_
      refine r_bipush (v := 7) C dX11_drawWay_39 (by decide) ?_
      refine lv_iload_n C.1.1 C.1.2.1 dX11_drawWay_41 rfl (lv_at hl 0 rfl) ?_
      refine lv_aload_n C.1.1 C.1.2.1 dX11_drawWay_42 rfl (lv_at hl 2 rfl) ?_
      refine r_sipush (v := 1000) C dX11_drawWay_43 (by decide) ?_
      refine r_callI (As := [.int (iz 1000)]) (rest := [.int (iz v34), .int (iz 7), .ref (X.2.2 0)]) (rm := rmX11_draw) C hw shM_0 ltM_0 cO11 tw7_132 tw7_134 tp_92 tw1_12 tw7_135 hd_X11_draw rfl ⟨⟨rfl, rfl⟩, Nat.le_of_ble_eq_true rfl, Nat.le_of_ble_eq_true rfl⟩ hl.1 rfl (Nat.le_of_ble_eq_true rfl) dX11_drawWay_46 hf (fun o ho => c_X11_draw l X hinj hZ N S34 1000 o ho) (fun v46 S46 H locs hf hw => ?_)
      refine r_callI (As := [.int (iz 7), .int (iz v34), .int (iz v46)]) (rest := []) (rm := rmX11_act) C hw shM_0 ltM_0 cO11 tw6_212 tw6_214 tp_64 tw1_12 tw6_215 hd_X11_act rfl ⟨⟨rfl, rfl⟩, Nat.le_of_ble_eq_true rfl, Nat.le_of_ble_eq_true rfl⟩ hl.1 rfl (Nat.le_of_ble_eq_true rfl) dX11_drawWay_49 hf (fun o ho => c_X11_act l X hinj hZ N S46 7 v34 v46 o ho) (fun v49 S49 H locs hf hw => ?_)
      refine lv_pop C.1.1 C.1.2.1 dX11_drawWay_52 rfl ?_
      refine lv_goto (tgt := 103) C.1.1 C.1.2.1 dX11_drawWay_53 (by decide) ?_
      exact r_retV C hw dX11_drawWay_103 hf
  · refine lv_aload_n C.1.1 C.1.2.1 dX11_drawWay_12 rfl (lv_at hl 1 rfl) ?_
    refine lv_iload_n C.1.1 C.1.2.1 dX11_drawWay_13 rfl (lv_at hl 0 rfl) ?_
    refine r_iconst (v := 0) C dX11_drawWay_14 ?_
    refine r_iconst (v := 0) C dX11_drawWay_15 ?_
    refine r_callI (As := [.int (iz v3), .int (iz 0), .int (iz 0)]) (rest := []) (rm := rmX11_act) C hw shM_0 ltM_0 cO11 tw6_212 tw6_214 tp_64 tw1_12 tw6_215 hd_X11_act rfl ⟨⟨rfl, rfl⟩, Nat.le_of_ble_eq_true rfl, Nat.le_of_ble_eq_true rfl⟩ hl.1 rfl (Nat.le_of_ble_eq_true rfl) dX11_drawWay_16 hf (fun o ho => c_X11_act l X hinj hZ N S3 v3 0 0 o ho) (fun v16 S16 H locs hf hw => ?_)
    refine lv_pop C.1.1 C.1.2.1 dX11_drawWay_19 rfl ?_
    refine lv_goto (tgt := 103) C.1.1 C.1.2.1 dX11_drawWay_20 (by decide) ?_
    exact r_retV C hw dX11_drawWay_103 hf
def f_X11_ways_43 (N : Nat) (S : S2) : Option (Int × S2) := bI (f_X11_keptNow N S) fun v44 S44 => rI v44 S44
def f_X11_ways_27 (k43 : S2 → Option (Int × S2)) : Nat → Int → Int → S2 → Option (Int × S2)
  | 0, _, _, _ => none
  | N + 1, x1, x4, S => cI x4 x1 (if x1 ≤ x4 then k43 S else bV (f_X11_drawWay N S) fun S34 => (f_X11_ways_27 k43 N) x1 (x4 + 1) S34)
def f_X11_ways (N : Nat) (S : S2) (a1 : Int) (a2 : Int64) : Option (Int × S2) := gI S 0 29 fun v1 => cI v1 0 (if v1 = 0 then rI (-1) S else bI (f_X11_in N S a1 1 40) fun v11 S11 => cI v11 0 (if v11 = 0 then rI (-1) S11 else uL S11 0 45 a2 fun S21 => (f_X11_ways_27 (f_X11_ways_43 N) N) a1 0 S21))
abbrev rmX11_ways : Room := { frames := 8, cells := 0, slots := 0, locals := 189 }
theorem hd_X11_ways : yX11_ways.cls ≠ "java/lang/invoke/MethodHandle" ∧ yX11_ways.cls ≠ "java/lang/invoke/VarHandle" ∧ (parseMethodDescriptor yX11_ways.desc).map (fun d => d.parameters.length) = some 2 := by decide +kernel
set_option maxRecDepth 100000 in
set_option maxHeartbeats 4000000 in
theorem w_X11_ways_43 {p : Program} (l : Launch) {e : Env} {s : State} {m : MethodId} {args : Array Value} {below : List Frame} {meth : Method} {c : Code} {X : XT} (hinj : XInj X nM) (hZ : ZOK (Zm X)) (C : CX p s m args meth c cX11_ways 5 RX11 (some .int) X nM (Zm X)) (out : Int × S2) : ∀ (N : Nat), ∀ (S : S2) (H : Heap) (locs : List Loc) (ls : Array Slot), f_X11_ways_43 N S = some out → WH X shM nM s S H locs → lv_has ls 5 [(0, .ref (X.2.2 0))] → W p l e rmX11_ways s m args below meth c H locs 0 0 (QI X shM nM s args below out) (F0 m 43 ls []) := by
  intro N S H locs ls hf hw hl
  unfold f_X11_ways_43 at hf
  refine lv_aload_n C.1.1 C.1.2.1 dX11_ways_43 rfl (lv_at hl 0 rfl) ?_
  refine r_callI (As := []) (rest := []) (rm := rmX11_keptNow) C hw shM_0 ltM_0 cO11 tw6_237 tw6_239 tp_69 tw1_12 tw7_0 hd_X11_keptNow rfl ⟨⟨rfl, rfl⟩, Nat.le_of_ble_eq_true rfl, Nat.le_of_ble_eq_true rfl⟩ hl.1 rfl (Nat.le_of_ble_eq_true rfl) dX11_ways_44 hf (fun o ho => c_X11_keptNow l X hinj hZ N S o ho) (fun v44 S44 H locs hf hw => ?_)
  exact r_retI C hw dX11_ways_47 hf
set_option maxRecDepth 100000 in
set_option maxHeartbeats 4000000 in
theorem w_X11_ways_27 {p : Program} (l : Launch) {e : Env} {s : State} {m : MethodId} {args : Array Value} {below : List Frame} {meth : Method} {c : Code} {X : XT} (hinj : XInj X nM) (hZ : ZOK (Zm X)) (C : CX p s m args meth c cX11_ways 5 RX11 (some .int) X nM (Zm X)) (out : Int × S2) (k43 : S2 → Option (Int × S2)) (hk43 : ∀ (S : S2) (H : Heap) (locs : List Loc) (ls : Array Slot), k43 S = some out → WH X shM nM s S H locs → lv_has ls 5 [(0, .ref (X.2.2 0))] → W p l e rmX11_ways s m args below meth c H locs 0 0 (QI X shM nM s args below out) (F0 m 43 ls [])) : ∀ (N : Nat), ∀ (x1 : Int) (x4 : Int) (S : S2) (H : Heap) (locs : List Loc) (ls : Array Slot), f_X11_ways_27 k43 N x1 x4 S = some out → WH X shM nM s S H locs → lv_has ls 5 [(0, .ref (X.2.2 0)), (1, .int (iz x1)), (4, .int (iz x4))] → W p l e rmX11_ways s m args below meth c H locs 0 0 (QI X shM nM s args below out) (F0 m 27 ls []) := by
  intro N
  induction N with
  | zero => intro x1 x4 S H locs ls hf hw hl; cases hf
  | succ N ih =>
    intro x1 x4 S H locs ls hf hw hl
    rw [f_X11_ways_27.eq_2] at hf
    refine lv_iload C.1.1 C.1.2.1 dX11_ways_27 (lv_at hl 2 rfl) ?_
    refine lv_iload_n C.1.1 C.1.2.1 dX11_ways_29 rfl (lv_at hl 1 rfl) ?_
    refine r_icmp_ge C (tgt := 43) dX11_ways_30 (by decide) hf (fun hf => ?_) (fun hf => ?_)
    · exact hk43 S H locs ls hf hw (lv_sub hl [0] rfl)
    · refine lv_aload_n C.1.1 C.1.2.1 dX11_ways_33 rfl (lv_at hl 0 rfl) ?_
      refine r_callV (As := []) (rest := []) (rm := rmX11_drawWay) C hw shM_0 ltM_0 cO11 tw7_128 tw7_130 tp_91 tw1_12 tw7_131 hd_X11_drawWay rfl ⟨⟨rfl, rfl⟩, Nat.le_of_ble_eq_true rfl, Nat.le_of_ble_eq_true rfl⟩ hl.1 rfl (Nat.le_of_ble_eq_true rfl) dX11_ways_34 hf (fun o ho => c_X11_drawWay l X hinj hZ N S o ho) (fun S34 H locs hf hw => ?_)
      refine lv_iinc (v := iz (x4 + 1)) (lv' := [(4, .int (iz (x4 + 1))), (0, .ref (X.2.2 0)), (1, .int (iz x1))]) C.1.1 C.1.2.1 dX11_ways_37 hl (k := 2) rfl (iz_add _ _) (by decide) rfl (fun ls hl => ?_)
      refine lv_goto (tgt := 27) C.1.1 C.1.2.1 dX11_ways_40 (by decide) ?_
      exact ih x1 (x4 + 1) S34 H locs ls hf hw (lv_sub hl [1, 2, 0] rfl)
set_option maxRecDepth 100000 in
set_option maxHeartbeats 4000000 in
theorem c_X11_ways (l : Launch) (X : XT) (hinj : XInj X nM) (hZ : ZOK (Zm X)) (N : Nat) (S : S2) (a1 : Int) (a2 : Int64) (out : Int × S2) (hf : f_X11_ways N S a1 a2 = some out) : MI l X shM nM (Zm X) yX11_ways cX11_ways 5 (some .int) rmX11_ways [.ref (X.2.2 0), .int (iz a1), .long a2] S out := by
  refine met_I (own := RX11) (by decide) rfl hinj hZ (Nat.le_of_ble_eq_true rfl) (fun p e s m args below meth c C ls H locs hw hl => ?_)
  unfold f_X11_ways at hf
  have hl : lv_has ls 5 [(0, .ref (X.2.2 0)), (1, .int (iz a1)), (2, .long a2)] := hl
  refine lv_aload_n C.1.1 C.1.2.1 dX11_ways_0 rfl (lv_at hl 0 rfl) ?_
  refine r_getI (k := 29) C hw shM_0 ltM_0 cO11 rfl (by decide) tw5_173 rfl dX11_ways_1 hf (fun v1 hf => ?_)
  refine r_if_eq C (tgt := 17) dX11_ways_4 (by decide) hf (fun hf => ?_) (fun hf => ?_)
  · refine r_iconst (v := (-1)) C dX11_ways_17 ?_
    exact r_retI C hw dX11_ways_18 hf
  · refine lv_iload_n C.1.1 C.1.2.1 dX11_ways_7 rfl (lv_at hl 1 rfl) ?_
    refine r_iconst (v := 1) C dX11_ways_8 ?_
    refine r_bipush (v := 40) C dX11_ways_9 (by decide) ?_
    refine r_scallI (As := [.int (iz a1), .int (iz 1), .int (iz 40)]) (rest := []) (rm := rmX11_in) C hw tw6_77 tw6_78 tw1_12 tw6_79 hd_X11_in rfl ⟨⟨rfl, rfl⟩, Nat.le_of_ble_eq_true rfl, Nat.le_of_ble_eq_true rfl⟩ hl.1 rfl (Nat.le_of_ble_eq_true rfl) dX11_ways_11 hf (fun o ho => c_X11_in l X hinj hZ N S a1 1 40 o ho) (fun v11 S11 H locs hf hw => ?_)
    refine r_if_ne C (tgt := 19) dX11_ways_14 (by decide) hf (fun hf => ?_) (fun hf => ?_)
    · refine lv_aload_n C.1.1 C.1.2.1 dX11_ways_19 rfl (lv_at hl 0 rfl) ?_
      refine lv_lload_n C.1.1 C.1.2.1 dX11_ways_20 rfl (lv_at hl 2 rfl) ?_
      refine r_putL (k := 45) C hw shM_0 ltM_0 cO11 rfl (by decide) tw5_189 rfl rfl rfl dX11_ways_21 hf (fun S21 H locs hf hw => ?_)
      refine r_iconst (v := 0) C dX11_ways_24 ?_
      refine lv_istore (lv' := [(4, .int (iz 0)), (0, .ref (X.2.2 0)), (1, .int (iz a1)), (2, .long a2)]) C.1.1 C.1.2.1 dX11_ways_25 hl (by decide) rfl (fun ls hl => ?_)
      exact (w_X11_ways_27 l hinj hZ C out (f_X11_ways_43 N) (w_X11_ways_43 l hinj hZ C out N) N) a1 0 S21 H locs ls hf hw (lv_sub hl [1, 2, 0] rfl)
    · refine r_iconst (v := (-1)) C dX11_ways_17 ?_
      exact r_retI C hw dX11_ways_18 hf
def f_X11_rule (N : Nat) (S : S2) (a1 : Int) : Option (Int × S2) := gI S 0 29 fun v1 => cI v1 0 (if v1 = 0 then rI (-1) S else bI (f_X11_in N S a1 0 7) fun v11 S11 => cI v11 0 (if v11 = 0 then rI (-1) S11 else bV (f_X11_finds N S11) fun S20 => cI a1 0 (if a1 = 0 then bI (f_X11_many N S20) fun v69 S69 => rI v69 S69 else (if a1 = 1 then aI S20 8 231 49 fun v79 => rI v79 S20 else (if a1 = 2 then gI S20 0 28 fun v82 => rI v82 S20 else (if a1 = 3 then gI S20 0 27 fun v87 => rI v87 S20 else (if a1 = 4 then gI S20 0 35 fun v92 => rI v92 S20 else (if a1 = 5 then gI S20 0 38 fun v97 => rI v97 S20 else (if a1 = 6 then bI (f_X11_least N S20) fun v102 S102 => rI v102 S102 else bI (f_X11_sumOf N S20) fun v107 S107 => rI v107 S107)))))))))
abbrev rmX11_rule : Room := { frames := 4, cells := 0, slots := 0, locals := 93 }
theorem hd_X11_rule : yX11_rule.cls ≠ "java/lang/invoke/MethodHandle" ∧ yX11_rule.cls ≠ "java/lang/invoke/VarHandle" ∧ (parseMethodDescriptor yX11_rule.desc).map (fun d => d.parameters.length) = some 1 := by decide +kernel
set_option maxRecDepth 100000 in
set_option maxHeartbeats 4000000 in
theorem c_X11_rule (l : Launch) (X : XT) (hinj : XInj X nM) (hZ : ZOK (Zm X)) (N : Nat) (S : S2) (a1 : Int) (out : Int × S2) (hf : f_X11_rule N S a1 = some out) : MI l X shM nM (Zm X) yX11_rule cX11_rule 2 (some .int) rmX11_rule [.ref (X.2.2 0), .int (iz a1)] S out := by
  refine met_I (own := RX11) (by decide) rfl hinj hZ (Nat.le_of_ble_eq_true rfl) (fun p e s m args below meth c C ls H locs hw hl => ?_)
  unfold f_X11_rule at hf
  have hl : lv_has ls 2 [(0, .ref (X.2.2 0)), (1, .int (iz a1))] := hl
  refine lv_aload_n C.1.1 C.1.2.1 dX11_rule_0 rfl (lv_at hl 0 rfl) ?_
  refine r_getI (k := 29) C hw shM_0 ltM_0 cO11 rfl (by decide) tw5_173 rfl dX11_rule_1 hf (fun v1 hf => ?_)
  refine r_if_eq C (tgt := 17) dX11_rule_4 (by decide) hf (fun hf => ?_) (fun hf => ?_)
  · refine r_iconst (v := (-1)) C dX11_rule_17 ?_
    exact r_retI C hw dX11_rule_18 hf
  · refine lv_iload_n C.1.1 C.1.2.1 dX11_rule_7 rfl (lv_at hl 1 rfl) ?_
    refine r_iconst (v := 0) C dX11_rule_8 ?_
    refine r_bipush (v := 7) C dX11_rule_9 (by decide) ?_
    refine r_scallI (As := [.int (iz a1), .int (iz 0), .int (iz 7)]) (rest := []) (rm := rmX11_in) C hw tw6_77 tw6_78 tw1_12 tw6_79 hd_X11_in rfl ⟨⟨rfl, rfl⟩, Nat.le_of_ble_eq_true rfl, Nat.le_of_ble_eq_true rfl⟩ hl.1 rfl (Nat.le_of_ble_eq_true rfl) dX11_rule_11 hf (fun o ho => c_X11_in l X hinj hZ N S a1 0 7 o ho) (fun v11 S11 H locs hf hw => ?_)
    refine r_if_ne C (tgt := 19) dX11_rule_14 (by decide) hf (fun hf => ?_) (fun hf => ?_)
    · refine lv_aload_n C.1.1 C.1.2.1 dX11_rule_19 rfl (lv_at hl 0 rfl) ?_
      refine r_callV (As := []) (rest := []) (rm := rmX11_finds) C hw shM_0 ltM_0 cO11 tw7_1 tw7_3 tp_70 tw1_12 tw7_4 hd_X11_finds rfl ⟨⟨rfl, rfl⟩, Nat.le_of_ble_eq_true rfl, Nat.le_of_ble_eq_true rfl⟩ hl.1 rfl (Nat.le_of_ble_eq_true rfl) dX11_rule_20 hf (fun o ho => c_X11_finds l X hinj hZ N S11 o ho) (fun S20 H locs hf hw => ?_)
      refine lv_iload_n C.1.1 C.1.2.1 dX11_rule_23 rfl (lv_at hl 1 rfl) ?_
      obtain ⟨⟨hsw, -⟩, hf⟩ := cI_some hf
      rcases ite_some hf with ⟨hc24_0, hf⟩ | ⟨hc24_0, hf⟩
      · refine lv_tableIn (tgt := 68) C.1.1 C.1.2.1 dX11_rule_24 (by rw [hc24_0]; decide) (by rw [hc24_0]; decide) (by rw [hc24_0]; rfl) (by decide) ?_
        refine lv_aload_n C.1.1 C.1.2.1 dX11_rule_68 rfl (lv_at hl 0 rfl) ?_
        refine r_callI (As := []) (rest := []) (rm := rmX11_many) C hw shM_0 ltM_0 cO11 tw6_192 tw6_194 tp_60 tw1_12 tw6_195 hd_X11_many rfl ⟨⟨rfl, rfl⟩, Nat.le_of_ble_eq_true rfl, Nat.le_of_ble_eq_true rfl⟩ hl.1 rfl (Nat.le_of_ble_eq_true rfl) dX11_rule_69 hf (fun o ho => c_X11_many l X hinj hZ N S20 o ho) (fun v69 S69 H locs hf hw => ?_)
        exact r_retI C hw dX11_rule_72 hf
      · skip
        rcases ite_some hf with ⟨hc24_1, hf⟩ | ⟨hc24_1, hf⟩
        · refine lv_tableIn (tgt := 73) C.1.1 C.1.2.1 dX11_rule_24 (by rw [hc24_1]; decide) (by rw [hc24_1]; decide) (by rw [hc24_1]; rfl) (by decide) ?_
          refine lv_aload_n C.1.1 C.1.2.1 dX11_rule_73 rfl (lv_at hl 0 rfl) ?_
          refine r_getR (k := 22) C hw shM_0 ltM_0 cO11 rfl (by decide) tw5_166 rfl dX11_rule_74 ?_
          refine r_bipush (v := 49) C dX11_rule_77 (by decide) ?_
          refine r_iald C hw shM_8 ltM_8 (Nat.le_of_ble_eq_true rfl) dX11_rule_79 hf (fun v79 hf => ?_)
          exact r_retI C hw dX11_rule_80 hf
        · skip
          rcases ite_some hf with ⟨hc24_2, hf⟩ | ⟨hc24_2, hf⟩
          · refine lv_tableIn (tgt := 81) C.1.1 C.1.2.1 dX11_rule_24 (by rw [hc24_2]; decide) (by rw [hc24_2]; decide) (by rw [hc24_2]; rfl) (by decide) ?_
            refine lv_aload_n C.1.1 C.1.2.1 dX11_rule_81 rfl (lv_at hl 0 rfl) ?_
            refine r_getI (k := 28) C hw shM_0 ltM_0 cO11 rfl (by decide) tw5_172 rfl dX11_rule_82 hf (fun v82 hf => ?_)
            exact r_retI C hw dX11_rule_85 hf
          · skip
            rcases ite_some hf with ⟨hc24_3, hf⟩ | ⟨hc24_3, hf⟩
            · refine lv_tableIn (tgt := 86) C.1.1 C.1.2.1 dX11_rule_24 (by rw [hc24_3]; decide) (by rw [hc24_3]; decide) (by rw [hc24_3]; rfl) (by decide) ?_
              refine lv_aload_n C.1.1 C.1.2.1 dX11_rule_86 rfl (lv_at hl 0 rfl) ?_
              refine r_getI (k := 27) C hw shM_0 ltM_0 cO11 rfl (by decide) tw5_171 rfl dX11_rule_87 hf (fun v87 hf => ?_)
              exact r_retI C hw dX11_rule_90 hf
            · skip
              rcases ite_some hf with ⟨hc24_4, hf⟩ | ⟨hc24_4, hf⟩
              · refine lv_tableIn (tgt := 91) C.1.1 C.1.2.1 dX11_rule_24 (by rw [hc24_4]; decide) (by rw [hc24_4]; decide) (by rw [hc24_4]; rfl) (by decide) ?_
                refine lv_aload_n C.1.1 C.1.2.1 dX11_rule_91 rfl (lv_at hl 0 rfl) ?_
                refine r_getI (k := 35) C hw shM_0 ltM_0 cO11 rfl (by decide) tw5_179 rfl dX11_rule_92 hf (fun v92 hf => ?_)
                exact r_retI C hw dX11_rule_95 hf
              · skip
                rcases ite_some hf with ⟨hc24_5, hf⟩ | ⟨hc24_5, hf⟩
                · refine lv_tableIn (tgt := 96) C.1.1 C.1.2.1 dX11_rule_24 (by rw [hc24_5]; decide) (by rw [hc24_5]; decide) (by rw [hc24_5]; rfl) (by decide) ?_
                  refine lv_aload_n C.1.1 C.1.2.1 dX11_rule_96 rfl (lv_at hl 0 rfl) ?_
                  refine r_getI (k := 38) C hw shM_0 ltM_0 cO11 rfl (by decide) tw5_182 rfl dX11_rule_97 hf (fun v97 hf => ?_)
                  exact r_retI C hw dX11_rule_100 hf
                · skip
                  rcases ite_some hf with ⟨hc24_6, hf⟩ | ⟨hc24_6, hf⟩
                  · refine lv_tableIn (tgt := 101) C.1.1 C.1.2.1 dX11_rule_24 (by rw [hc24_6]; decide) (by rw [hc24_6]; decide) (by rw [hc24_6]; rfl) (by decide) ?_
                    refine lv_aload_n C.1.1 C.1.2.1 dX11_rule_101 rfl (lv_at hl 0 rfl) ?_
                    refine r_callI (As := []) (rest := []) (rm := rmX11_least) C hw shM_0 ltM_0 cO11 tw7_29 tw7_31 tp_77 tw1_12 tw7_32 hd_X11_least rfl ⟨⟨rfl, rfl⟩, Nat.le_of_ble_eq_true rfl, Nat.le_of_ble_eq_true rfl⟩ hl.1 rfl (Nat.le_of_ble_eq_true rfl) dX11_rule_102 hf (fun o ho => c_X11_least l X hinj hZ N S20 o ho) (fun v102 S102 H locs hf hw => ?_)
                    exact r_retI C hw dX11_rule_105 hf
                  · skip
                    refine lv_tableOut (tgt := 106) C.1.1 C.1.2.1 dX11_rule_24 (by rw [sw_in hsw]; omega) (by decide) ?_
                    refine lv_aload_n C.1.1 C.1.2.1 dX11_rule_106 rfl (lv_at hl 0 rfl) ?_
                    refine r_callI (As := []) (rest := []) (rm := rmX11_sumOf) C hw shM_0 ltM_0 cO11 tw7_154 tw7_156 tp_93 tw1_12 tw7_157 hd_X11_sumOf rfl ⟨⟨rfl, rfl⟩, Nat.le_of_ble_eq_true rfl, Nat.le_of_ble_eq_true rfl⟩ hl.1 rfl (Nat.le_of_ble_eq_true rfl) dX11_rule_107 hf (fun o ho => c_X11_sumOf l X hinj hZ N S20 o ho) (fun v107 S107 H locs hf hw => ?_)
                    exact r_retI C hw dX11_rule_110 hf
    · refine r_iconst (v := (-1)) C dX11_rule_17 ?_
      exact r_retI C hw dX11_rule_18 hf
def f_X11_isPeak (N : Nat) (S : S2) (a1 : Int) : Option (Int × S2) := gI S 0 29 fun v1 => cI v1 0 (if v1 = 0 then rZ 0 S else bV (f_X11_finds N S) fun S10 => gI S10 0 35 fun v16 => bI (f_X11_in N S10 a1 0 (v16 - 1)) fun v21 S21 => rZ v21 S21)
abbrev rmX11_isPeak : Room := { frames := 4, cells := 0, slots := 0, locals := 93 }
theorem hd_X11_isPeak : yX11_isPeak.cls ≠ "java/lang/invoke/MethodHandle" ∧ yX11_isPeak.cls ≠ "java/lang/invoke/VarHandle" ∧ (parseMethodDescriptor yX11_isPeak.desc).map (fun d => d.parameters.length) = some 1 := by decide +kernel
set_option maxRecDepth 100000 in
set_option maxHeartbeats 4000000 in
theorem c_X11_isPeak (l : Launch) (X : XT) (hinj : XInj X nM) (hZ : ZOK (Zm X)) (N : Nat) (S : S2) (a1 : Int) (out : Int × S2) (hf : f_X11_isPeak N S a1 = some out) : MI l X shM nM (Zm X) yX11_isPeak cX11_isPeak 2 (some .boolean) rmX11_isPeak [.ref (X.2.2 0), .int (iz a1)] S out := by
  refine met_I (own := RX11) (by decide) rfl hinj hZ (Nat.le_of_ble_eq_true rfl) (fun p e s m args below meth c C ls H locs hw hl => ?_)
  unfold f_X11_isPeak at hf
  have hl : lv_has ls 2 [(0, .ref (X.2.2 0)), (1, .int (iz a1))] := hl
  refine lv_aload_n C.1.1 C.1.2.1 dX11_isPeak_0 rfl (lv_at hl 0 rfl) ?_
  refine r_getI (k := 29) C hw shM_0 ltM_0 cO11 rfl (by decide) tw5_173 rfl dX11_isPeak_1 hf (fun v1 hf => ?_)
  refine r_if_ne C (tgt := 9) dX11_isPeak_4 (by decide) hf (fun hf => ?_) (fun hf => ?_)
  · refine lv_aload_n C.1.1 C.1.2.1 dX11_isPeak_9 rfl (lv_at hl 0 rfl) ?_
    refine r_callV (As := []) (rest := []) (rm := rmX11_finds) C hw shM_0 ltM_0 cO11 tw7_1 tw7_3 tp_70 tw1_12 tw7_4 hd_X11_finds rfl ⟨⟨rfl, rfl⟩, Nat.le_of_ble_eq_true rfl, Nat.le_of_ble_eq_true rfl⟩ hl.1 rfl (Nat.le_of_ble_eq_true rfl) dX11_isPeak_10 hf (fun o ho => c_X11_finds l X hinj hZ N S o ho) (fun S10 H locs hf hw => ?_)
    refine lv_iload_n C.1.1 C.1.2.1 dX11_isPeak_13 rfl (lv_at hl 1 rfl) ?_
    refine r_iconst (v := 0) C dX11_isPeak_14 ?_
    refine lv_aload_n C.1.1 C.1.2.1 dX11_isPeak_15 rfl (lv_at hl 0 rfl) ?_
    refine r_getI (k := 35) C hw shM_0 ltM_0 cO11 rfl (by decide) tw5_179 rfl dX11_isPeak_16 hf (fun v16 hf => ?_)
    refine r_iconst (v := 1) C dX11_isPeak_19 ?_
    refine r_isub C dX11_isPeak_20 ?_
    refine r_scallI (As := [.int (iz a1), .int (iz 0), .int (iz (v16 - 1))]) (rest := []) (rm := rmX11_in) C hw tw6_77 tw6_78 tw1_12 tw6_79 hd_X11_in rfl ⟨⟨rfl, rfl⟩, Nat.le_of_ble_eq_true rfl, Nat.le_of_ble_eq_true rfl⟩ hl.1 rfl (Nat.le_of_ble_eq_true rfl) dX11_isPeak_21 hf (fun o ho => c_X11_in l X hinj hZ N S10 a1 0 (v16 - 1) o ho) (fun v21 S21 H locs hf hw => ?_)
    exact r_retZ C hw dX11_isPeak_24 hf
  · refine r_iconst (v := 0) C dX11_isPeak_7 ?_
    exact r_retZ C hw dX11_isPeak_8 hf
def f_X11_peak_24 (N : Nat) (x1 : Int) (x2 : Int) (y0 : Int) (S : S2) : Option (Int × S2) := uI S 0 0 y0 fun S24 => gI S24 0 0 fun v28 => cI v28 1 (if v28 = 1 then rI 0 S24 else aI S24 18 48 x1 fun v42 => cI x2 0 (if x2 = 0 then aI S24 13 48 v42 fun v97 => rI v97 S24 else (if x2 = 1 then bI (f_X11_height N S24 x1) fun v101 S101 => rI v101 S101 else (if x2 = 2 then aI S24 14 48 v42 fun v110 => rI v110 S24 else (if x2 = 3 then aI S24 15 48 v42 fun v117 => rI v117 S24 else (if x2 = 4 then bI (f_X11_life N S24 x1) fun v121 S121 => rI v121 S121 else (if x2 = 5 then aI S24 16 48 v42 fun v130 => cI v130 (-1) (if v130 = (-1) then rI (-1) S24 else aI S24 16 48 v42 fun v148 => aI S24 19 48 v148 fun v149 => rI v149 S24) else (if x2 = 6 then bI (f_X11_isKept N S24 x1) fun v153 S153 => cI v153 0 (if v153 = 0 then rI 0 S153 else rI 1 S153) else (if x2 = 7 then bI (f_X11_generationOf N S24 x1) fun v167 S167 => rI v167 S167 else aI S24 20 48 x1 fun v176 => rI v176 S24)))))))))
def f_X11_peak_23 (N : Nat) (x1 : Int) (x2 : Int) (S : S2) : Option (Int × S2) := (f_X11_peak_24 N) x1 x2 1 S
def f_X11_peak (N : Nat) (S : S2) (a1 : Int) (a2 : Int) : Option (Int × S2) := bI (f_X11_isPeak N S a1) fun v3 S3 => cI v3 0 (if v3 = 0 then (f_X11_peak_23 N) a1 a2 S3 else bI (f_X11_in N S3 a2 0 8) fun v13 S13 => cI v13 0 (if v13 = 0 then (f_X11_peak_23 N) a1 a2 S13 else (f_X11_peak_24 N) a1 a2 0 S13))
abbrev rmX11_peak : Room := { frames := 5, cells := 0, slots := 0, locals := 114 }
theorem hd_X11_peak : yX11_peak.cls ≠ "java/lang/invoke/MethodHandle" ∧ yX11_peak.cls ≠ "java/lang/invoke/VarHandle" ∧ (parseMethodDescriptor yX11_peak.desc).map (fun d => d.parameters.length) = some 2 := by decide +kernel
set_option maxRecDepth 100000 in
set_option maxHeartbeats 4000000 in
theorem w_X11_peak_24 {p : Program} (l : Launch) {e : Env} {s : State} {m : MethodId} {args : Array Value} {below : List Frame} {meth : Method} {c : Code} {X : XT} (hinj : XInj X nM) (hZ : ZOK (Zm X)) (C : CX p s m args meth c cX11_peak 4 RX11 (some .int) X nM (Zm X)) (out : Int × S2) : ∀ (N : Nat), ∀ (x1 : Int) (x2 : Int) (y0 : Int) (S : S2) (H : Heap) (locs : List Loc) (ls : Array Slot), f_X11_peak_24 N x1 x2 y0 S = some out → WH X shM nM s S H locs → lv_has ls 4 [(0, .ref (X.2.2 0)), (1, .int (iz x1)), (2, .int (iz x2))] → W p l e rmX11_peak s m args below meth c H locs 0 0 (QI X shM nM s args below out) (F0 m 24 ls [.int (iz y0), .ref (X.2.2 0)]) := by
  intro N x1 x2 y0 S H locs ls hf hw hl
  unfold f_X11_peak_24 at hf
  refine r_putI (k := 0) C hw shM_0 ltM_0 cO11 rfl (by decide) tw5_144 rfl rfl rfl dX11_peak_24 hf (fun S24 H locs hf hw => ?_)
  refine lv_aload_n C.1.1 C.1.2.1 dX11_peak_27 rfl (lv_at hl 0 rfl) ?_
  refine r_getI (k := 0) C hw shM_0 ltM_0 cO11 rfl (by decide) tw5_144 rfl dX11_peak_28 hf (fun v28 hf => ?_)
  refine r_iconst (v := 1) C dX11_peak_31 ?_
  refine r_icmp_ne C (tgt := 37) dX11_peak_32 (by decide) hf (fun hf => ?_) (fun hf => ?_)
  · refine lv_aload_n C.1.1 C.1.2.1 dX11_peak_37 rfl (lv_at hl 0 rfl) ?_
    refine r_getR (k := 36) C hw shM_0 ltM_0 cO11 rfl (by decide) tw5_180 rfl dX11_peak_38 ?_
    refine lv_iload_n C.1.1 C.1.2.1 dX11_peak_41 rfl (lv_at hl 1 rfl) ?_
    refine r_iald C hw shM_18 ltM_18 (Nat.le_of_ble_eq_true rfl) dX11_peak_42 hf (fun v42 hf => ?_)
    refine lv_istore_n (lv' := [(3, .int (iz v42)), (0, .ref (X.2.2 0)), (1, .int (iz x1)), (2, .int (iz x2))]) C.1.1 C.1.2.1 dX11_peak_43 rfl hl (by decide) rfl (fun ls hl => ?_)
    refine lv_iload_n C.1.1 C.1.2.1 dX11_peak_44 rfl (lv_at hl 3 rfl) ?_
    obtain ⟨⟨hsw, -⟩, hf⟩ := cI_some hf
    rcases ite_some hf with ⟨hc45_0, hf⟩ | ⟨hc45_0, hf⟩
    · refine lv_tableIn (tgt := 92) C.1.1 C.1.2.1 dX11_peak_45 (by rw [hc45_0]; decide) (by rw [hc45_0]; decide) (by rw [hc45_0]; rfl) (by decide) ?_
      refine lv_aload_n C.1.1 C.1.2.1 dX11_peak_92 rfl (lv_at hl 1 rfl) ?_
      refine r_getR (k := 30) C hw shM_0 ltM_0 cO11 rfl (by decide) tw5_174 rfl dX11_peak_93 ?_
      refine lv_iload_n C.1.1 C.1.2.1 dX11_peak_96 rfl (lv_at hl 0 rfl) ?_
      refine r_iald C hw shM_13 ltM_13 (Nat.le_of_ble_eq_true rfl) dX11_peak_97 hf (fun v97 hf => ?_)
      exact r_retI C hw dX11_peak_98 hf
    · skip
      rcases ite_some hf with ⟨hc45_1, hf⟩ | ⟨hc45_1, hf⟩
      · refine lv_tableIn (tgt := 99) C.1.1 C.1.2.1 dX11_peak_45 (by rw [hc45_1]; decide) (by rw [hc45_1]; decide) (by rw [hc45_1]; rfl) (by decide) ?_
        refine lv_aload_n C.1.1 C.1.2.1 dX11_peak_99 rfl (lv_at hl 1 rfl) ?_
        refine lv_iload_n C.1.1 C.1.2.1 dX11_peak_100 rfl (lv_at hl 2 rfl) ?_
        refine r_callI (As := [.int (iz x1)]) (rest := []) (rm := rmX11_height) C hw shM_0 ltM_0 cO11 tw7_170 tw7_172 tp_95 tw1_12 tw7_173 hd_X11_height rfl ⟨⟨rfl, rfl⟩, Nat.le_of_ble_eq_true rfl, Nat.le_of_ble_eq_true rfl⟩ hl.1 rfl (Nat.le_of_ble_eq_true rfl) dX11_peak_101 hf (fun o ho => c_X11_height l X hinj hZ N S24 x1 o ho) (fun v101 S101 H locs hf hw => ?_)
        exact r_retI C hw dX11_peak_104 hf
      · skip
        rcases ite_some hf with ⟨hc45_2, hf⟩ | ⟨hc45_2, hf⟩
        · refine lv_tableIn (tgt := 105) C.1.1 C.1.2.1 dX11_peak_45 (by rw [hc45_2]; decide) (by rw [hc45_2]; decide) (by rw [hc45_2]; rfl) (by decide) ?_
          refine lv_aload_n C.1.1 C.1.2.1 dX11_peak_105 rfl (lv_at hl 1 rfl) ?_
          refine r_getR (k := 31) C hw shM_0 ltM_0 cO11 rfl (by decide) tw5_175 rfl dX11_peak_106 ?_
          refine lv_iload_n C.1.1 C.1.2.1 dX11_peak_109 rfl (lv_at hl 0 rfl) ?_
          refine r_iald C hw shM_14 ltM_14 (Nat.le_of_ble_eq_true rfl) dX11_peak_110 hf (fun v110 hf => ?_)
          exact r_retI C hw dX11_peak_111 hf
        · skip
          rcases ite_some hf with ⟨hc45_3, hf⟩ | ⟨hc45_3, hf⟩
          · refine lv_tableIn (tgt := 112) C.1.1 C.1.2.1 dX11_peak_45 (by rw [hc45_3]; decide) (by rw [hc45_3]; decide) (by rw [hc45_3]; rfl) (by decide) ?_
            refine lv_aload_n C.1.1 C.1.2.1 dX11_peak_112 rfl (lv_at hl 1 rfl) ?_
            refine r_getR (k := 32) C hw shM_0 ltM_0 cO11 rfl (by decide) tw5_176 rfl dX11_peak_113 ?_
            refine lv_iload_n C.1.1 C.1.2.1 dX11_peak_116 rfl (lv_at hl 0 rfl) ?_
            refine r_iald C hw shM_15 ltM_15 (Nat.le_of_ble_eq_true rfl) dX11_peak_117 hf (fun v117 hf => ?_)
            exact r_retI C hw dX11_peak_118 hf
          · skip
            rcases ite_some hf with ⟨hc45_4, hf⟩ | ⟨hc45_4, hf⟩
            · refine lv_tableIn (tgt := 119) C.1.1 C.1.2.1 dX11_peak_45 (by rw [hc45_4]; decide) (by rw [hc45_4]; decide) (by rw [hc45_4]; rfl) (by decide) ?_
              refine lv_aload_n C.1.1 C.1.2.1 dX11_peak_119 rfl (lv_at hl 1 rfl) ?_
              refine lv_iload_n C.1.1 C.1.2.1 dX11_peak_120 rfl (lv_at hl 2 rfl) ?_
              refine r_callI (As := [.int (iz x1)]) (rest := []) (rm := rmX11_life) C hw shM_0 ltM_0 cO11 tw7_174 tw7_176 tp_96 tw1_12 tw7_177 hd_X11_life rfl ⟨⟨rfl, rfl⟩, Nat.le_of_ble_eq_true rfl, Nat.le_of_ble_eq_true rfl⟩ hl.1 rfl (Nat.le_of_ble_eq_true rfl) dX11_peak_121 hf (fun o ho => c_X11_life l X hinj hZ N S24 x1 o ho) (fun v121 S121 H locs hf hw => ?_)
              exact r_retI C hw dX11_peak_124 hf
            · skip
              rcases ite_some hf with ⟨hc45_5, hf⟩ | ⟨hc45_5, hf⟩
              · refine lv_tableIn (tgt := 125) C.1.1 C.1.2.1 dX11_peak_45 (by rw [hc45_5]; decide) (by rw [hc45_5]; decide) (by rw [hc45_5]; rfl) (by decide) ?_
                refine lv_aload_n C.1.1 C.1.2.1 dX11_peak_125 rfl (lv_at hl 1 rfl) ?_
                refine r_getR (k := 33) C hw shM_0 ltM_0 cO11 rfl (by decide) tw5_177 rfl dX11_peak_126 ?_
                refine lv_iload_n C.1.1 C.1.2.1 dX11_peak_129 rfl (lv_at hl 0 rfl) ?_
                refine r_iald C hw shM_16 ltM_16 (Nat.le_of_ble_eq_true rfl) dX11_peak_130 hf (fun v130 hf => ?_)
                refine r_iconst (v := (-1)) C dX11_peak_131 ?_
                refine r_icmp_ne C (tgt := 139) dX11_peak_132 (by decide) hf (fun hf => ?_) (fun hf => ?_)
                · refine lv_aload_n C.1.1 C.1.2.1 dX11_peak_139 rfl (lv_at hl 1 rfl) ?_
                  refine r_getR (k := 37) C hw shM_0 ltM_0 cO11 rfl (by decide) tw5_181 rfl dX11_peak_140 ?_
                  refine lv_aload_n C.1.1 C.1.2.1 dX11_peak_143 rfl (lv_at hl 1 rfl) ?_
                  refine r_getR (k := 33) C hw shM_0 ltM_0 cO11 rfl (by decide) tw5_177 rfl dX11_peak_144 ?_
                  refine lv_iload_n C.1.1 C.1.2.1 dX11_peak_147 rfl (lv_at hl 0 rfl) ?_
                  refine r_iald C hw shM_16 ltM_16 (Nat.le_of_ble_eq_true rfl) dX11_peak_148 hf (fun v148 hf => ?_)
                  refine r_iald C hw shM_19 ltM_19 (Nat.le_of_ble_eq_true rfl) dX11_peak_149 hf (fun v149 hf => ?_)
                  exact r_retI C hw dX11_peak_150 hf
                · refine r_iconst (v := (-1)) C dX11_peak_135 ?_
                  refine lv_goto (tgt := 150) C.1.1 C.1.2.1 dX11_peak_136 (by decide) ?_
                  exact r_retI C hw dX11_peak_150 hf
              · skip
                rcases ite_some hf with ⟨hc45_6, hf⟩ | ⟨hc45_6, hf⟩
                · refine lv_tableIn (tgt := 151) C.1.1 C.1.2.1 dX11_peak_45 (by rw [hc45_6]; decide) (by rw [hc45_6]; decide) (by rw [hc45_6]; rfl) (by decide) ?_
                  refine lv_aload_n C.1.1 C.1.2.1 dX11_peak_151 rfl (lv_at hl 1 rfl) ?_
                  refine lv_iload_n C.1.1 C.1.2.1 dX11_peak_152 rfl (lv_at hl 2 rfl) ?_
                  refine r_callI (As := [.int (iz x1)]) (rest := []) (rm := rmX11_isKept) C hw shM_0 ltM_0 cO11 tw7_178 tw7_180 tp_97 tw1_12 tw7_181 hd_X11_isKept rfl ⟨⟨rfl, rfl⟩, Nat.le_of_ble_eq_true rfl, Nat.le_of_ble_eq_true rfl⟩ hl.1 rfl (Nat.le_of_ble_eq_true rfl) dX11_peak_153 hf (fun o ho => c_X11_isKept l X hinj hZ N S24 x1 o ho) (fun v153 S153 H locs hf hw => ?_)
                  refine r_if_eq C (tgt := 163) dX11_peak_156 (by decide) hf (fun hf => ?_) (fun hf => ?_)
                  · refine r_iconst (v := 0) C dX11_peak_163 ?_
                    exact r_retI C hw dX11_peak_164 hf
                  · refine r_iconst (v := 1) C dX11_peak_159 ?_
                    refine lv_goto (tgt := 164) C.1.1 C.1.2.1 dX11_peak_160 (by decide) ?_
                    exact r_retI C hw dX11_peak_164 hf
                · skip
                  rcases ite_some hf with ⟨hc45_7, hf⟩ | ⟨hc45_7, hf⟩
                  · refine lv_tableIn (tgt := 165) C.1.1 C.1.2.1 dX11_peak_45 (by rw [hc45_7]; decide) (by rw [hc45_7]; decide) (by rw [hc45_7]; rfl) (by decide) ?_
                    refine lv_aload_n C.1.1 C.1.2.1 dX11_peak_165 rfl (lv_at hl 1 rfl) ?_
                    refine lv_iload_n C.1.1 C.1.2.1 dX11_peak_166 rfl (lv_at hl 2 rfl) ?_
                    refine r_callI (As := [.int (iz x1)]) (rest := []) (rm := rmX11_generationOf) C hw shM_0 ltM_0 cO11 tw7_182 tw7_184 tp_98 tw1_12 tw7_185 hd_X11_generationOf rfl ⟨⟨rfl, rfl⟩, Nat.le_of_ble_eq_true rfl, Nat.le_of_ble_eq_true rfl⟩ hl.1 rfl (Nat.le_of_ble_eq_true rfl) dX11_peak_167 hf (fun o ho => c_X11_generationOf l X hinj hZ N S24 x1 o ho) (fun v167 S167 H locs hf hw => ?_)
                    exact r_retI C hw dX11_peak_170 hf
                  · skip
                    refine lv_tableOut (tgt := 171) C.1.1 C.1.2.1 dX11_peak_45 (by rw [sw_in hsw]; omega) (by decide) ?_
                    refine lv_aload_n C.1.1 C.1.2.1 dX11_peak_171 rfl (lv_at hl 1 rfl) ?_
                    refine r_getR (k := 39) C hw shM_0 ltM_0 cO11 rfl (by decide) tw5_183 rfl dX11_peak_172 ?_
                    refine lv_iload_n C.1.1 C.1.2.1 dX11_peak_175 rfl (lv_at hl 2 rfl) ?_
                    refine r_iald C hw shM_20 ltM_20 (Nat.le_of_ble_eq_true rfl) dX11_peak_176 hf (fun v176 hf => ?_)
                    exact r_retI C hw dX11_peak_177 hf
  · refine r_iconst (v := 0) C dX11_peak_35 ?_
    exact r_retI C hw dX11_peak_36 hf
set_option maxRecDepth 100000 in
set_option maxHeartbeats 4000000 in
theorem w_X11_peak_23 {p : Program} (l : Launch) {e : Env} {s : State} {m : MethodId} {args : Array Value} {below : List Frame} {meth : Method} {c : Code} {X : XT} (hinj : XInj X nM) (hZ : ZOK (Zm X)) (C : CX p s m args meth c cX11_peak 4 RX11 (some .int) X nM (Zm X)) (out : Int × S2) : ∀ (N : Nat), ∀ (x1 : Int) (x2 : Int) (S : S2) (H : Heap) (locs : List Loc) (ls : Array Slot), f_X11_peak_23 N x1 x2 S = some out → WH X shM nM s S H locs → lv_has ls 4 [(0, .ref (X.2.2 0)), (1, .int (iz x1)), (2, .int (iz x2))] → W p l e rmX11_peak s m args below meth c H locs 0 0 (QI X shM nM s args below out) (F0 m 23 ls [.ref (X.2.2 0)]) := by
  intro N x1 x2 S H locs ls hf hw hl
  unfold f_X11_peak_23 at hf
  refine r_iconst (v := 1) C dX11_peak_23 ?_
  exact (w_X11_peak_24 l hinj hZ C out N) x1 x2 1 S H locs ls hf hw (lv_sub hl [0, 1, 2] rfl)
set_option maxRecDepth 100000 in
set_option maxHeartbeats 4000000 in
theorem c_X11_peak (l : Launch) (X : XT) (hinj : XInj X nM) (hZ : ZOK (Zm X)) (N : Nat) (S : S2) (a1 : Int) (a2 : Int) (out : Int × S2) (hf : f_X11_peak N S a1 a2 = some out) : MI l X shM nM (Zm X) yX11_peak cX11_peak 4 (some .int) rmX11_peak [.ref (X.2.2 0), .int (iz a1), .int (iz a2)] S out := by
  refine met_I (own := RX11) (by decide) rfl hinj hZ (Nat.le_of_ble_eq_true rfl) (fun p e s m args below meth c C ls H locs hw hl => ?_)
  unfold f_X11_peak at hf
  have hl : lv_has ls 4 [(0, .ref (X.2.2 0)), (1, .int (iz a1)), (2, .int (iz a2))] := hl
  refine lv_aload_n C.1.1 C.1.2.1 dX11_peak_0 rfl (lv_at hl 0 rfl) ?_
  refine lv_aload_n C.1.1 C.1.2.1 dX11_peak_1 rfl (lv_at hl 0 rfl) ?_
  refine lv_iload_n C.1.1 C.1.2.1 dX11_peak_2 rfl (lv_at hl 1 rfl) ?_
  refine r_callI (As := [.int (iz a1)]) (rest := [.ref (X.2.2 0)]) (rm := rmX11_isPeak) C hw shM_0 ltM_0 cO11 tw7_166 tw7_168 tp_94 tw1_12 tw7_169 hd_X11_isPeak rfl ⟨⟨rfl, rfl⟩, Nat.le_of_ble_eq_true rfl, Nat.le_of_ble_eq_true rfl⟩ hl.1 rfl (Nat.le_of_ble_eq_true rfl) dX11_peak_3 hf (fun o ho => c_X11_isPeak l X hinj hZ N S a1 o ho) (fun v3 S3 H locs hf hw => ?_)
  refine r_if_eq C (tgt := 23) dX11_peak_6 (by decide) hf (fun hf => ?_) (fun hf => ?_)
  · exact (w_X11_peak_23 l hinj hZ C out N) a1 a2 S3 H locs ls hf hw (lv_sub hl [0, 1, 2] rfl)
  · refine lv_iload_n C.1.1 C.1.2.1 dX11_peak_9 rfl (lv_at hl 2 rfl) ?_
    refine r_iconst (v := 0) C dX11_peak_10 ?_
    refine r_bipush (v := 8) C dX11_peak_11 (by decide) ?_
    refine r_scallI (As := [.int (iz a2), .int (iz 0), .int (iz 8)]) (rest := [.ref (X.2.2 0)]) (rm := rmX11_in) C hw tw6_77 tw6_78 tw1_12 tw6_79 hd_X11_in rfl ⟨⟨rfl, rfl⟩, Nat.le_of_ble_eq_true rfl, Nat.le_of_ble_eq_true rfl⟩ hl.1 rfl (Nat.le_of_ble_eq_true rfl) dX11_peak_13 hf (fun o ho => c_X11_in l X hinj hZ N S3 a2 0 8 o ho) (fun v13 S13 H locs hf hw => ?_)
    refine r_if_eq C (tgt := 23) dX11_peak_16 (by decide) hf (fun hf => ?_) (fun hf => ?_)
    · exact (w_X11_peak_23 l hinj hZ C out N) a1 a2 S13 H locs ls hf hw (lv_sub hl [0, 1, 2] rfl)
    · refine r_iconst (v := 0) C dX11_peak_19 ?_
      refine lv_goto (tgt := 24) C.1.1 C.1.2.1 dX11_peak_20 (by decide) ?_
      exact (w_X11_peak_24 l hinj hZ C out N) a1 a2 0 S13 H locs ls hf hw (lv_sub hl [0, 1, 2] rfl)
def f_X11_basin (N : Nat) (S : S2) (a1 : Int) (a2 : Int) : Option (Int × S2) := bI (f_X11_isPeak N S a1) fun v2 S2 => cI v2 0 (if v2 = 0 then rI (-1) S2 else bI (f_X11_isKept N S2 a1) fun v10 S10 => cI v10 0 (if v10 = 0 then rI (-1) S10 else bI (f_X11_in N S10 a2 0 3) fun v19 S19 => cI v19 0 (if v19 = 0 then rI (-1) S19 else cI a2 0 (if a2 = 0 then bI (f_X11_firstOf N S19 a1) fun v33 S33 => rI v33 S33 else cI a2 1 (if a2 = 1 then bI (f_X11_lastOf N S19 a1) fun v46 S46 => rI v46 S46 else cI a2 2 (if a2 = 2 then bI (f_X11_areaOf N S19 a1) fun v59 S59 => rI v59 S59 else bI (f_X11_widthOf N S19 a1) fun v67 S67 => rI v67 S67))))))
abbrev rmX11_basin : Room := { frames := 5, cells := 0, slots := 0, locals := 114 }
theorem hd_X11_basin : yX11_basin.cls ≠ "java/lang/invoke/MethodHandle" ∧ yX11_basin.cls ≠ "java/lang/invoke/VarHandle" ∧ (parseMethodDescriptor yX11_basin.desc).map (fun d => d.parameters.length) = some 2 := by decide +kernel
set_option maxRecDepth 100000 in
set_option maxHeartbeats 4000000 in
theorem c_X11_basin (l : Launch) (X : XT) (hinj : XInj X nM) (hZ : ZOK (Zm X)) (N : Nat) (S : S2) (a1 : Int) (a2 : Int) (out : Int × S2) (hf : f_X11_basin N S a1 a2 = some out) : MI l X shM nM (Zm X) yX11_basin cX11_basin 3 (some .int) rmX11_basin [.ref (X.2.2 0), .int (iz a1), .int (iz a2)] S out := by
  refine met_I (own := RX11) (by decide) rfl hinj hZ (Nat.le_of_ble_eq_true rfl) (fun p e s m args below meth c C ls H locs hw hl => ?_)
  unfold f_X11_basin at hf
  have hl : lv_has ls 3 [(0, .ref (X.2.2 0)), (1, .int (iz a1)), (2, .int (iz a2))] := hl
  refine lv_aload_n C.1.1 C.1.2.1 dX11_basin_0 rfl (lv_at hl 0 rfl) ?_
  refine lv_iload_n C.1.1 C.1.2.1 dX11_basin_1 rfl (lv_at hl 1 rfl) ?_
  refine r_callI (As := [.int (iz a1)]) (rest := []) (rm := rmX11_isPeak) C hw shM_0 ltM_0 cO11 tw7_166 tw7_168 tp_94 tw1_12 tw7_169 hd_X11_isPeak rfl ⟨⟨rfl, rfl⟩, Nat.le_of_ble_eq_true rfl, Nat.le_of_ble_eq_true rfl⟩ hl.1 rfl (Nat.le_of_ble_eq_true rfl) dX11_basin_2 hf (fun o ho => c_X11_isPeak l X hinj hZ N S a1 o ho) (fun v2 S2 H locs hf hw => ?_)
  refine r_if_eq C (tgt := 25) dX11_basin_5 (by decide) hf (fun hf => ?_) (fun hf => ?_)
  · refine r_iconst (v := (-1)) C dX11_basin_25 ?_
    exact r_retI C hw dX11_basin_26 hf
  · refine lv_aload_n C.1.1 C.1.2.1 dX11_basin_8 rfl (lv_at hl 0 rfl) ?_
    refine lv_iload_n C.1.1 C.1.2.1 dX11_basin_9 rfl (lv_at hl 1 rfl) ?_
    refine r_callI (As := [.int (iz a1)]) (rest := []) (rm := rmX11_isKept) C hw shM_0 ltM_0 cO11 tw7_178 tw7_180 tp_97 tw1_12 tw7_181 hd_X11_isKept rfl ⟨⟨rfl, rfl⟩, Nat.le_of_ble_eq_true rfl, Nat.le_of_ble_eq_true rfl⟩ hl.1 rfl (Nat.le_of_ble_eq_true rfl) dX11_basin_10 hf (fun o ho => c_X11_isKept l X hinj hZ N S2 a1 o ho) (fun v10 S10 H locs hf hw => ?_)
    refine r_if_eq C (tgt := 25) dX11_basin_13 (by decide) hf (fun hf => ?_) (fun hf => ?_)
    · refine r_iconst (v := (-1)) C dX11_basin_25 ?_
      exact r_retI C hw dX11_basin_26 hf
    · refine lv_iload_n C.1.1 C.1.2.1 dX11_basin_16 rfl (lv_at hl 2 rfl) ?_
      refine r_iconst (v := 0) C dX11_basin_17 ?_
      refine r_iconst (v := 3) C dX11_basin_18 ?_
      refine r_scallI (As := [.int (iz a2), .int (iz 0), .int (iz 3)]) (rest := []) (rm := rmX11_in) C hw tw6_77 tw6_78 tw1_12 tw6_79 hd_X11_in rfl ⟨⟨rfl, rfl⟩, Nat.le_of_ble_eq_true rfl, Nat.le_of_ble_eq_true rfl⟩ hl.1 rfl (Nat.le_of_ble_eq_true rfl) dX11_basin_19 hf (fun o ho => c_X11_in l X hinj hZ N S10 a2 0 3 o ho) (fun v19 S19 H locs hf hw => ?_)
      refine r_if_ne C (tgt := 27) dX11_basin_22 (by decide) hf (fun hf => ?_) (fun hf => ?_)
      · refine lv_iload_n C.1.1 C.1.2.1 dX11_basin_27 rfl (lv_at hl 2 rfl) ?_
        refine r_if_ne C (tgt := 39) dX11_basin_28 (by decide) hf (fun hf => ?_) (fun hf => ?_)
        · refine lv_iload_n C.1.1 C.1.2.1 dX11_basin_39 rfl (lv_at hl 2 rfl) ?_
          refine r_iconst (v := 1) C dX11_basin_40 ?_
          refine r_icmp_ne C (tgt := 52) dX11_basin_41 (by decide) hf (fun hf => ?_) (fun hf => ?_)
          · refine lv_iload_n C.1.1 C.1.2.1 dX11_basin_52 rfl (lv_at hl 2 rfl) ?_
            refine r_iconst (v := 2) C dX11_basin_53 ?_
            refine r_icmp_ne C (tgt := 65) dX11_basin_54 (by decide) hf (fun hf => ?_) (fun hf => ?_)
            · refine lv_aload_n C.1.1 C.1.2.1 dX11_basin_65 rfl (lv_at hl 0 rfl) ?_
              refine lv_iload_n C.1.1 C.1.2.1 dX11_basin_66 rfl (lv_at hl 1 rfl) ?_
              refine r_callI (As := [.int (iz a1)]) (rest := []) (rm := rmX11_widthOf) C hw shM_0 ltM_0 cO11 tw7_210 tw7_212 tp_104 tw1_12 tw7_213 hd_X11_widthOf rfl ⟨⟨rfl, rfl⟩, Nat.le_of_ble_eq_true rfl, Nat.le_of_ble_eq_true rfl⟩ hl.1 rfl (Nat.le_of_ble_eq_true rfl) dX11_basin_67 hf (fun o ho => c_X11_widthOf l X hinj hZ N S19 a1 o ho) (fun v67 S67 H locs hf hw => ?_)
              exact r_retI C hw dX11_basin_70 hf
            · refine lv_aload_n C.1.1 C.1.2.1 dX11_basin_57 rfl (lv_at hl 0 rfl) ?_
              refine lv_iload_n C.1.1 C.1.2.1 dX11_basin_58 rfl (lv_at hl 1 rfl) ?_
              refine r_callI (As := [.int (iz a1)]) (rest := []) (rm := rmX11_areaOf) C hw shM_0 ltM_0 cO11 tw7_206 tw7_208 tp_103 tw1_12 tw7_209 hd_X11_areaOf rfl ⟨⟨rfl, rfl⟩, Nat.le_of_ble_eq_true rfl, Nat.le_of_ble_eq_true rfl⟩ hl.1 rfl (Nat.le_of_ble_eq_true rfl) dX11_basin_59 hf (fun o ho => c_X11_areaOf l X hinj hZ N S19 a1 o ho) (fun v59 S59 H locs hf hw => ?_)
              refine lv_goto (tgt := 70) C.1.1 C.1.2.1 dX11_basin_62 (by decide) ?_
              exact r_retI C hw dX11_basin_70 hf
          · refine lv_aload_n C.1.1 C.1.2.1 dX11_basin_44 rfl (lv_at hl 0 rfl) ?_
            refine lv_iload_n C.1.1 C.1.2.1 dX11_basin_45 rfl (lv_at hl 1 rfl) ?_
            refine r_callI (As := [.int (iz a1)]) (rest := []) (rm := rmX11_lastOf) C hw shM_0 ltM_0 cO11 tw7_202 tw7_204 tp_102 tw1_12 tw7_205 hd_X11_lastOf rfl ⟨⟨rfl, rfl⟩, Nat.le_of_ble_eq_true rfl, Nat.le_of_ble_eq_true rfl⟩ hl.1 rfl (Nat.le_of_ble_eq_true rfl) dX11_basin_46 hf (fun o ho => c_X11_lastOf l X hinj hZ N S19 a1 o ho) (fun v46 S46 H locs hf hw => ?_)
            refine lv_goto (tgt := 70) C.1.1 C.1.2.1 dX11_basin_49 (by decide) ?_
            exact r_retI C hw dX11_basin_70 hf
        · refine lv_aload_n C.1.1 C.1.2.1 dX11_basin_31 rfl (lv_at hl 0 rfl) ?_
          refine lv_iload_n C.1.1 C.1.2.1 dX11_basin_32 rfl (lv_at hl 1 rfl) ?_
          refine r_callI (As := [.int (iz a1)]) (rest := []) (rm := rmX11_firstOf) C hw shM_0 ltM_0 cO11 tw7_190 tw7_192 tp_99 tw1_12 tw7_193 hd_X11_firstOf rfl ⟨⟨rfl, rfl⟩, Nat.le_of_ble_eq_true rfl, Nat.le_of_ble_eq_true rfl⟩ hl.1 rfl (Nat.le_of_ble_eq_true rfl) dX11_basin_33 hf (fun o ho => c_X11_firstOf l X hinj hZ N S19 a1 o ho) (fun v33 S33 H locs hf hw => ?_)
          refine lv_goto (tgt := 70) C.1.1 C.1.2.1 dX11_basin_36 (by decide) ?_
          exact r_retI C hw dX11_basin_70 hf
      · refine r_iconst (v := (-1)) C dX11_basin_25 ?_
        exact r_retI C hw dX11_basin_26 hf
def f_X11_at_84 (k25 : Int → Int → Int → S2 → Option (Int × S2)) (N : Nat) (x1 : Int) (x2 : Int) (x3 : Int) (y0 : Int) (S : S2) : Option (Int × S2) := cI y0 0 (if y0 = 0 then k25 x1 x2 (x3 + 1) S else rI x3 S)
def f_X11_at_83 (k25 : Int → Int → Int → S2 → Option (Int × S2)) (N : Nat) (x1 : Int) (x2 : Int) (x3 : Int) (S : S2) : Option (Int × S2) := (f_X11_at_84 k25 N) x1 x2 x3 0 S
def f_X11_at_25 : Nat → Int → Int → Int → S2 → Option (Int × S2)
  | 0, _, _, _, _ => none
  | N + 1, x1, x2, x3, S => gI S 0 35 fun v27 => cI x3 v27 (if v27 ≤ x3 then rI (-1) S else cI x2 0 (if x2 = 0 then bI (f_X11_placeOf N S x3) fun v39 S39 => cI v39 x1 (if v39 = x1 then (f_X11_at_84 (f_X11_at_25 N) N) x1 x2 x3 1 S39 else (f_X11_at_84 (f_X11_at_25 N) N) x1 x2 x3 0 S39) else bI (f_X11_isKept N S x3) fun v56 S56 => cI v56 0 (if v56 = 0 then (f_X11_at_83 (f_X11_at_25 N) N) x1 x2 x3 S56 else bI (f_X11_firstOf N S56 x3) fun v65 S65 => bI (f_X11_lastOf N S65 x3) fun v70 S70 => bI (f_X11_in N S70 x1 v65 v70) fun v73 S73 => cI v73 0 (if v73 = 0 then (f_X11_at_83 (f_X11_at_25 N) N) x1 x2 x3 S73 else (f_X11_at_84 (f_X11_at_25 N) N) x1 x2 x3 1 S73))))
def f_X11_at (N : Nat) (S : S2) (a1 : Int) (a2 : Int) : Option (Int × S2) := bI (f_X11_isPlace N S a1) fun v2 S2 => cI v2 0 (if v2 = 0 then rI (-1) S2 else bI (f_X11_in N S2 a2 0 1) fun v11 S11 => cI v11 0 (if v11 = 0 then rI (-1) S11 else bV (f_X11_finds N S11) fun S20 => (f_X11_at_25 N) a1 a2 0 S20))
abbrev rmX11_at : Room := { frames := 4, cells := 0, slots := 0, locals := 93 }
theorem hd_X11_at : yX11_at.cls ≠ "java/lang/invoke/MethodHandle" ∧ yX11_at.cls ≠ "java/lang/invoke/VarHandle" ∧ (parseMethodDescriptor yX11_at.desc).map (fun d => d.parameters.length) = some 2 := by decide +kernel
set_option maxRecDepth 100000 in
set_option maxHeartbeats 4000000 in
theorem w_X11_at_84 {p : Program} (l : Launch) {e : Env} {s : State} {m : MethodId} {args : Array Value} {below : List Frame} {meth : Method} {c : Code} {X : XT} (hinj : XInj X nM) (hZ : ZOK (Zm X)) (C : CX p s m args meth c cX11_at 5 RX11 (some .int) X nM (Zm X)) (out : Int × S2) (k25 : Int → Int → Int → S2 → Option (Int × S2)) (hk25 : ∀ (x1 : Int) (x2 : Int) (x3 : Int) (S : S2) (H : Heap) (locs : List Loc) (ls : Array Slot), k25 x1 x2 x3 S = some out → WH X shM nM s S H locs → lv_has ls 5 [(0, .ref (X.2.2 0)), (1, .int (iz x1)), (2, .int (iz x2)), (3, .int (iz x3))] → W p l e rmX11_at s m args below meth c H locs 0 0 (QI X shM nM s args below out) (F0 m 25 ls [])) : ∀ (N : Nat), ∀ (x1 : Int) (x2 : Int) (x3 : Int) (y0 : Int) (S : S2) (H : Heap) (locs : List Loc) (ls : Array Slot), f_X11_at_84 k25 N x1 x2 x3 y0 S = some out → WH X shM nM s S H locs → lv_has ls 5 [(0, .ref (X.2.2 0)), (1, .int (iz x1)), (2, .int (iz x2)), (3, .int (iz x3))] → W p l e rmX11_at s m args below meth c H locs 0 0 (QI X shM nM s args below out) (F0 m 84 ls [.int (iz y0)]) := by
  intro N x1 x2 x3 y0 S H locs ls hf hw hl
  unfold f_X11_at_84 at hf
  refine lv_istore (lv' := [(4, .int (iz y0)), (0, .ref (X.2.2 0)), (1, .int (iz x1)), (2, .int (iz x2)), (3, .int (iz x3))]) C.1.1 C.1.2.1 dX11_at_84 hl (by decide) rfl (fun ls hl => ?_)
  refine lv_iload C.1.1 C.1.2.1 dX11_at_86 (lv_at hl 0 rfl) ?_
  refine r_if_eq C (tgt := 93) dX11_at_88 (by decide) hf (fun hf => ?_) (fun hf => ?_)
  · refine lv_iinc (v := iz (x3 + 1)) (lv' := [(3, .int (iz (x3 + 1))), (4, .int (iz y0)), (0, .ref (X.2.2 0)), (1, .int (iz x1)), (2, .int (iz x2))]) C.1.1 C.1.2.1 dX11_at_93 hl (k := 4) rfl (iz_add _ _) (by decide) rfl (fun ls hl => ?_)
    refine lv_goto (tgt := 25) C.1.1 C.1.2.1 dX11_at_96 (by decide) ?_
    exact hk25 x1 x2 (x3 + 1) S H locs ls hf hw (lv_sub hl [2, 3, 4, 0] rfl)
  · refine lv_iload_n C.1.1 C.1.2.1 dX11_at_91 rfl (lv_at hl 4 rfl) ?_
    exact r_retI C hw dX11_at_92 hf
set_option maxRecDepth 100000 in
set_option maxHeartbeats 4000000 in
theorem w_X11_at_83 {p : Program} (l : Launch) {e : Env} {s : State} {m : MethodId} {args : Array Value} {below : List Frame} {meth : Method} {c : Code} {X : XT} (hinj : XInj X nM) (hZ : ZOK (Zm X)) (C : CX p s m args meth c cX11_at 5 RX11 (some .int) X nM (Zm X)) (out : Int × S2) (k25 : Int → Int → Int → S2 → Option (Int × S2)) (hk25 : ∀ (x1 : Int) (x2 : Int) (x3 : Int) (S : S2) (H : Heap) (locs : List Loc) (ls : Array Slot), k25 x1 x2 x3 S = some out → WH X shM nM s S H locs → lv_has ls 5 [(0, .ref (X.2.2 0)), (1, .int (iz x1)), (2, .int (iz x2)), (3, .int (iz x3))] → W p l e rmX11_at s m args below meth c H locs 0 0 (QI X shM nM s args below out) (F0 m 25 ls [])) : ∀ (N : Nat), ∀ (x1 : Int) (x2 : Int) (x3 : Int) (S : S2) (H : Heap) (locs : List Loc) (ls : Array Slot), f_X11_at_83 k25 N x1 x2 x3 S = some out → WH X shM nM s S H locs → lv_has ls 5 [(0, .ref (X.2.2 0)), (1, .int (iz x1)), (2, .int (iz x2)), (3, .int (iz x3))] → W p l e rmX11_at s m args below meth c H locs 0 0 (QI X shM nM s args below out) (F0 m 83 ls []) := by
  intro N x1 x2 x3 S H locs ls hf hw hl
  unfold f_X11_at_83 at hf
  refine r_iconst (v := 0) C dX11_at_83 ?_
  exact (w_X11_at_84 l hinj hZ C out k25 hk25 N) x1 x2 x3 0 S H locs ls hf hw (lv_sub hl [0, 1, 2, 3] rfl)
set_option maxRecDepth 100000 in
set_option maxHeartbeats 4000000 in
theorem w_X11_at_25 {p : Program} (l : Launch) {e : Env} {s : State} {m : MethodId} {args : Array Value} {below : List Frame} {meth : Method} {c : Code} {X : XT} (hinj : XInj X nM) (hZ : ZOK (Zm X)) (C : CX p s m args meth c cX11_at 5 RX11 (some .int) X nM (Zm X)) (out : Int × S2) : ∀ (N : Nat), ∀ (x1 : Int) (x2 : Int) (x3 : Int) (S : S2) (H : Heap) (locs : List Loc) (ls : Array Slot), f_X11_at_25 N x1 x2 x3 S = some out → WH X shM nM s S H locs → lv_has ls 5 [(0, .ref (X.2.2 0)), (1, .int (iz x1)), (2, .int (iz x2)), (3, .int (iz x3))] → W p l e rmX11_at s m args below meth c H locs 0 0 (QI X shM nM s args below out) (F0 m 25 ls []) := by
  intro N
  induction N with
  | zero => intro x1 x2 x3 S H locs ls hf hw hl; cases hf
  | succ N ih =>
    intro x1 x2 x3 S H locs ls hf hw hl
    rw [f_X11_at_25.eq_2] at hf
    refine lv_iload_n C.1.1 C.1.2.1 dX11_at_25 rfl (lv_at hl 3 rfl) ?_
    refine lv_aload_n C.1.1 C.1.2.1 dX11_at_26 rfl (lv_at hl 0 rfl) ?_
    refine r_getI (k := 35) C hw shM_0 ltM_0 cO11 rfl (by decide) tw5_179 rfl dX11_at_27 hf (fun v27 hf => ?_)
    refine r_icmp_ge C (tgt := 99) dX11_at_30 (by decide) hf (fun hf => ?_) (fun hf => ?_)
    · refine r_iconst (v := (-1)) C dX11_at_99 ?_
      exact r_retI C hw dX11_at_100 hf
    · refine lv_iload_n C.1.1 C.1.2.1 dX11_at_33 rfl (lv_at hl 2 rfl) ?_
      refine r_if_ne C (tgt := 54) dX11_at_34 (by decide) hf (fun hf => ?_) (fun hf => ?_)
      · refine lv_aload_n C.1.1 C.1.2.1 dX11_at_54 rfl (lv_at hl 0 rfl) ?_
        refine lv_iload_n C.1.1 C.1.2.1 dX11_at_55 rfl (lv_at hl 3 rfl) ?_
        refine r_callI (As := [.int (iz x3)]) (rest := []) (rm := rmX11_isKept) C hw shM_0 ltM_0 cO11 tw7_178 tw7_180 tp_97 tw1_12 tw7_181 hd_X11_isKept rfl ⟨⟨rfl, rfl⟩, Nat.le_of_ble_eq_true rfl, Nat.le_of_ble_eq_true rfl⟩ hl.1 rfl (Nat.le_of_ble_eq_true rfl) dX11_at_56 hf (fun o ho => c_X11_isKept l X hinj hZ N S x3 o ho) (fun v56 S56 H locs hf hw => ?_)
        refine r_if_eq C (tgt := 83) dX11_at_59 (by decide) hf (fun hf => ?_) (fun hf => ?_)
        · exact (w_X11_at_83 l hinj hZ C out (f_X11_at_25 N) ih N) x1 x2 x3 S56 H locs ls hf hw (lv_sub hl [0, 1, 2, 3] rfl)
        · refine lv_iload_n C.1.1 C.1.2.1 dX11_at_62 rfl (lv_at hl 1 rfl) ?_
          refine lv_aload_n C.1.1 C.1.2.1 dX11_at_63 rfl (lv_at hl 0 rfl) ?_
          refine lv_iload_n C.1.1 C.1.2.1 dX11_at_64 rfl (lv_at hl 3 rfl) ?_
          refine r_callI (As := [.int (iz x3)]) (rest := [.int (iz x1)]) (rm := rmX11_firstOf) C hw shM_0 ltM_0 cO11 tw7_190 tw7_192 tp_99 tw1_12 tw7_193 hd_X11_firstOf rfl ⟨⟨rfl, rfl⟩, Nat.le_of_ble_eq_true rfl, Nat.le_of_ble_eq_true rfl⟩ hl.1 rfl (Nat.le_of_ble_eq_true rfl) dX11_at_65 hf (fun o ho => c_X11_firstOf l X hinj hZ N S56 x3 o ho) (fun v65 S65 H locs hf hw => ?_)
          refine lv_aload_n C.1.1 C.1.2.1 dX11_at_68 rfl (lv_at hl 0 rfl) ?_
          refine lv_iload_n C.1.1 C.1.2.1 dX11_at_69 rfl (lv_at hl 3 rfl) ?_
          refine r_callI (As := [.int (iz x3)]) (rest := [.int (iz v65), .int (iz x1)]) (rm := rmX11_lastOf) C hw shM_0 ltM_0 cO11 tw7_202 tw7_204 tp_102 tw1_12 tw7_205 hd_X11_lastOf rfl ⟨⟨rfl, rfl⟩, Nat.le_of_ble_eq_true rfl, Nat.le_of_ble_eq_true rfl⟩ hl.1 rfl (Nat.le_of_ble_eq_true rfl) dX11_at_70 hf (fun o ho => c_X11_lastOf l X hinj hZ N S65 x3 o ho) (fun v70 S70 H locs hf hw => ?_)
          refine r_scallI (As := [.int (iz x1), .int (iz v65), .int (iz v70)]) (rest := []) (rm := rmX11_in) C hw tw6_77 tw6_78 tw1_12 tw6_79 hd_X11_in rfl ⟨⟨rfl, rfl⟩, Nat.le_of_ble_eq_true rfl, Nat.le_of_ble_eq_true rfl⟩ hl.1 rfl (Nat.le_of_ble_eq_true rfl) dX11_at_73 hf (fun o ho => c_X11_in l X hinj hZ N S70 x1 v65 v70 o ho) (fun v73 S73 H locs hf hw => ?_)
          refine r_if_eq C (tgt := 83) dX11_at_76 (by decide) hf (fun hf => ?_) (fun hf => ?_)
          · exact (w_X11_at_83 l hinj hZ C out (f_X11_at_25 N) ih N) x1 x2 x3 S73 H locs ls hf hw (lv_sub hl [0, 1, 2, 3] rfl)
          · refine r_iconst (v := 1) C dX11_at_79 ?_
            refine lv_goto (tgt := 84) C.1.1 C.1.2.1 dX11_at_80 (by decide) ?_
            exact (w_X11_at_84 l hinj hZ C out (f_X11_at_25 N) ih N) x1 x2 x3 1 S73 H locs ls hf hw (lv_sub hl [0, 1, 2, 3] rfl)
      · refine lv_aload_n C.1.1 C.1.2.1 dX11_at_37 rfl (lv_at hl 0 rfl) ?_
        refine lv_iload_n C.1.1 C.1.2.1 dX11_at_38 rfl (lv_at hl 3 rfl) ?_
        refine r_callI (As := [.int (iz x3)]) (rest := []) (rm := rmX11_placeOf) C hw shM_0 ltM_0 cO11 tw7_41 tw7_43 tp_80 tw1_12 tw7_44 hd_X11_placeOf rfl ⟨⟨rfl, rfl⟩, Nat.le_of_ble_eq_true rfl, Nat.le_of_ble_eq_true rfl⟩ hl.1 rfl (Nat.le_of_ble_eq_true rfl) dX11_at_39 hf (fun o ho => c_X11_placeOf l X hinj hZ N S x3 o ho) (fun v39 S39 H locs hf hw => ?_)
        refine lv_iload_n C.1.1 C.1.2.1 dX11_at_42 rfl (lv_at hl 1 rfl) ?_
        refine r_icmp_ne C (tgt := 50) dX11_at_43 (by decide) hf (fun hf => ?_) (fun hf => ?_)
        · refine r_iconst (v := 0) C dX11_at_50 ?_
          refine lv_goto (tgt := 84) C.1.1 C.1.2.1 dX11_at_51 (by decide) ?_
          exact (w_X11_at_84 l hinj hZ C out (f_X11_at_25 N) ih N) x1 x2 x3 0 S39 H locs ls hf hw (lv_sub hl [0, 1, 2, 3] rfl)
        · refine r_iconst (v := 1) C dX11_at_46 ?_
          refine lv_goto (tgt := 84) C.1.1 C.1.2.1 dX11_at_47 (by decide) ?_
          exact (w_X11_at_84 l hinj hZ C out (f_X11_at_25 N) ih N) x1 x2 x3 1 S39 H locs ls hf hw (lv_sub hl [0, 1, 2, 3] rfl)
set_option maxRecDepth 100000 in
set_option maxHeartbeats 4000000 in
theorem c_X11_at (l : Launch) (X : XT) (hinj : XInj X nM) (hZ : ZOK (Zm X)) (N : Nat) (S : S2) (a1 : Int) (a2 : Int) (out : Int × S2) (hf : f_X11_at N S a1 a2 = some out) : MI l X shM nM (Zm X) yX11_at cX11_at 5 (some .int) rmX11_at [.ref (X.2.2 0), .int (iz a1), .int (iz a2)] S out := by
  refine met_I (own := RX11) (by decide) rfl hinj hZ (Nat.le_of_ble_eq_true rfl) (fun p e s m args below meth c C ls H locs hw hl => ?_)
  unfold f_X11_at at hf
  have hl : lv_has ls 5 [(0, .ref (X.2.2 0)), (1, .int (iz a1)), (2, .int (iz a2))] := hl
  refine lv_aload_n C.1.1 C.1.2.1 dX11_at_0 rfl (lv_at hl 0 rfl) ?_
  refine lv_iload_n C.1.1 C.1.2.1 dX11_at_1 rfl (lv_at hl 1 rfl) ?_
  refine r_callI (As := [.int (iz a1)]) (rest := []) (rm := rmX11_isPlace) C hw shM_0 ltM_0 cO11 tw6_208 tw6_210 tp_63 tw1_12 tw6_211 hd_X11_isPlace rfl ⟨⟨rfl, rfl⟩, Nat.le_of_ble_eq_true rfl, Nat.le_of_ble_eq_true rfl⟩ hl.1 rfl (Nat.le_of_ble_eq_true rfl) dX11_at_2 hf (fun o ho => c_X11_isPlace l X hinj hZ N S a1 o ho) (fun v2 S2 H locs hf hw => ?_)
  refine r_if_eq C (tgt := 17) dX11_at_5 (by decide) hf (fun hf => ?_) (fun hf => ?_)
  · refine r_iconst (v := (-1)) C dX11_at_17 ?_
    exact r_retI C hw dX11_at_18 hf
  · refine lv_iload_n C.1.1 C.1.2.1 dX11_at_8 rfl (lv_at hl 2 rfl) ?_
    refine r_iconst (v := 0) C dX11_at_9 ?_
    refine r_iconst (v := 1) C dX11_at_10 ?_
    refine r_scallI (As := [.int (iz a2), .int (iz 0), .int (iz 1)]) (rest := []) (rm := rmX11_in) C hw tw6_77 tw6_78 tw1_12 tw6_79 hd_X11_in rfl ⟨⟨rfl, rfl⟩, Nat.le_of_ble_eq_true rfl, Nat.le_of_ble_eq_true rfl⟩ hl.1 rfl (Nat.le_of_ble_eq_true rfl) dX11_at_11 hf (fun o ho => c_X11_in l X hinj hZ N S2 a2 0 1 o ho) (fun v11 S11 H locs hf hw => ?_)
    refine r_if_ne C (tgt := 19) dX11_at_14 (by decide) hf (fun hf => ?_) (fun hf => ?_)
    · refine lv_aload_n C.1.1 C.1.2.1 dX11_at_19 rfl (lv_at hl 0 rfl) ?_
      refine r_callV (As := []) (rest := []) (rm := rmX11_finds) C hw shM_0 ltM_0 cO11 tw7_1 tw7_3 tp_70 tw1_12 tw7_4 hd_X11_finds rfl ⟨⟨rfl, rfl⟩, Nat.le_of_ble_eq_true rfl, Nat.le_of_ble_eq_true rfl⟩ hl.1 rfl (Nat.le_of_ble_eq_true rfl) dX11_at_20 hf (fun o ho => c_X11_finds l X hinj hZ N S11 o ho) (fun S20 H locs hf hw => ?_)
      refine r_iconst (v := 0) C dX11_at_23 ?_
      refine lv_istore_n (lv' := [(3, .int (iz 0)), (0, .ref (X.2.2 0)), (1, .int (iz a1)), (2, .int (iz a2))]) C.1.1 C.1.2.1 dX11_at_24 rfl hl (by decide) rfl (fun ls hl => ?_)
      exact (w_X11_at_25 l hinj hZ C out N) a1 a2 0 S20 H locs ls hf hw (lv_sub hl [1, 2, 3, 0] rfl)
    · refine r_iconst (v := (-1)) C dX11_at_17 ?_
      exact r_retI C hw dX11_at_18 hf
def f_X11_line (N : Nat) (S : S2) (a1 : Int) (a2 : Int) : Option (Int × S2) := gI S 0 29 fun v1 => cI v1 0 (if v1 = 0 then rI (-1) S else gI S 0 27 fun v10 => bI (f_X11_in N S a1 0 (v10 - 1)) fun v15 S15 => cI v15 0 (if v15 = 0 then rI (-1) S15 else bI (f_X11_in N S15 a2 0 2) fun v24 S24 => cI v24 0 (if v24 = 0 then rI (-1) S24 else bV (f_X11_finds N S24) fun S33 => cI a2 0 (if a2 = 0 then aI S33 10 8 a1 fun v45 => rI v45 S33 else cI a2 1 (if a2 = 1 then aI S33 21 8 a1 fun v59 => rI v59 S33 else aI S33 11 8 a1 fun v68 => rI v68 S33)))))
abbrev rmX11_line : Room := { frames := 4, cells := 0, slots := 0, locals := 93 }
theorem hd_X11_line : yX11_line.cls ≠ "java/lang/invoke/MethodHandle" ∧ yX11_line.cls ≠ "java/lang/invoke/VarHandle" ∧ (parseMethodDescriptor yX11_line.desc).map (fun d => d.parameters.length) = some 2 := by decide +kernel
set_option maxRecDepth 100000 in
set_option maxHeartbeats 4000000 in
theorem c_X11_line (l : Launch) (X : XT) (hinj : XInj X nM) (hZ : ZOK (Zm X)) (N : Nat) (S : S2) (a1 : Int) (a2 : Int) (out : Int × S2) (hf : f_X11_line N S a1 a2 = some out) : MI l X shM nM (Zm X) yX11_line cX11_line 3 (some .int) rmX11_line [.ref (X.2.2 0), .int (iz a1), .int (iz a2)] S out := by
  refine met_I (own := RX11) (by decide) rfl hinj hZ (Nat.le_of_ble_eq_true rfl) (fun p e s m args below meth c C ls H locs hw hl => ?_)
  unfold f_X11_line at hf
  have hl : lv_has ls 3 [(0, .ref (X.2.2 0)), (1, .int (iz a1)), (2, .int (iz a2))] := hl
  refine lv_aload_n C.1.1 C.1.2.1 dX11_line_0 rfl (lv_at hl 0 rfl) ?_
  refine r_getI (k := 29) C hw shM_0 ltM_0 cO11 rfl (by decide) tw5_173 rfl dX11_line_1 hf (fun v1 hf => ?_)
  refine r_if_eq C (tgt := 30) dX11_line_4 (by decide) hf (fun hf => ?_) (fun hf => ?_)
  · refine r_iconst (v := (-1)) C dX11_line_30 ?_
    exact r_retI C hw dX11_line_31 hf
  · refine lv_iload_n C.1.1 C.1.2.1 dX11_line_7 rfl (lv_at hl 1 rfl) ?_
    refine r_iconst (v := 0) C dX11_line_8 ?_
    refine lv_aload_n C.1.1 C.1.2.1 dX11_line_9 rfl (lv_at hl 0 rfl) ?_
    refine r_getI (k := 27) C hw shM_0 ltM_0 cO11 rfl (by decide) tw5_171 rfl dX11_line_10 hf (fun v10 hf => ?_)
    refine r_iconst (v := 1) C dX11_line_13 ?_
    refine r_isub C dX11_line_14 ?_
    refine r_scallI (As := [.int (iz a1), .int (iz 0), .int (iz (v10 - 1))]) (rest := []) (rm := rmX11_in) C hw tw6_77 tw6_78 tw1_12 tw6_79 hd_X11_in rfl ⟨⟨rfl, rfl⟩, Nat.le_of_ble_eq_true rfl, Nat.le_of_ble_eq_true rfl⟩ hl.1 rfl (Nat.le_of_ble_eq_true rfl) dX11_line_15 hf (fun o ho => c_X11_in l X hinj hZ N S a1 0 (v10 - 1) o ho) (fun v15 S15 H locs hf hw => ?_)
    refine r_if_eq C (tgt := 30) dX11_line_18 (by decide) hf (fun hf => ?_) (fun hf => ?_)
    · refine r_iconst (v := (-1)) C dX11_line_30 ?_
      exact r_retI C hw dX11_line_31 hf
    · refine lv_iload_n C.1.1 C.1.2.1 dX11_line_21 rfl (lv_at hl 2 rfl) ?_
      refine r_iconst (v := 0) C dX11_line_22 ?_
      refine r_iconst (v := 2) C dX11_line_23 ?_
      refine r_scallI (As := [.int (iz a2), .int (iz 0), .int (iz 2)]) (rest := []) (rm := rmX11_in) C hw tw6_77 tw6_78 tw1_12 tw6_79 hd_X11_in rfl ⟨⟨rfl, rfl⟩, Nat.le_of_ble_eq_true rfl, Nat.le_of_ble_eq_true rfl⟩ hl.1 rfl (Nat.le_of_ble_eq_true rfl) dX11_line_24 hf (fun o ho => c_X11_in l X hinj hZ N S15 a2 0 2 o ho) (fun v24 S24 H locs hf hw => ?_)
      refine r_if_ne C (tgt := 32) dX11_line_27 (by decide) hf (fun hf => ?_) (fun hf => ?_)
      · refine lv_aload_n C.1.1 C.1.2.1 dX11_line_32 rfl (lv_at hl 0 rfl) ?_
        refine r_callV (As := []) (rest := []) (rm := rmX11_finds) C hw shM_0 ltM_0 cO11 tw7_1 tw7_3 tp_70 tw1_12 tw7_4 hd_X11_finds rfl ⟨⟨rfl, rfl⟩, Nat.le_of_ble_eq_true rfl, Nat.le_of_ble_eq_true rfl⟩ hl.1 rfl (Nat.le_of_ble_eq_true rfl) dX11_line_33 hf (fun o ho => c_X11_finds l X hinj hZ N S24 o ho) (fun S33 H locs hf hw => ?_)
        refine lv_iload_n C.1.1 C.1.2.1 dX11_line_36 rfl (lv_at hl 2 rfl) ?_
        refine r_if_ne C (tgt := 49) dX11_line_37 (by decide) hf (fun hf => ?_) (fun hf => ?_)
        · refine lv_iload_n C.1.1 C.1.2.1 dX11_line_49 rfl (lv_at hl 2 rfl) ?_
          refine r_iconst (v := 1) C dX11_line_50 ?_
          refine r_icmp_ne C (tgt := 63) dX11_line_51 (by decide) hf (fun hf => ?_) (fun hf => ?_)
          · refine lv_aload_n C.1.1 C.1.2.1 dX11_line_63 rfl (lv_at hl 0 rfl) ?_
            refine r_getR (k := 25) C hw shM_0 ltM_0 cO11 rfl (by decide) tw5_169 rfl dX11_line_64 ?_
            refine lv_iload_n C.1.1 C.1.2.1 dX11_line_67 rfl (lv_at hl 1 rfl) ?_
            refine r_iald C hw shM_11 ltM_11 (Nat.le_of_ble_eq_true rfl) dX11_line_68 hf (fun v68 hf => ?_)
            exact r_retI C hw dX11_line_69 hf
          · refine lv_aload_n C.1.1 C.1.2.1 dX11_line_54 rfl (lv_at hl 0 rfl) ?_
            refine r_getR (k := 40) C hw shM_0 ltM_0 cO11 rfl (by decide) tw5_184 rfl dX11_line_55 ?_
            refine lv_iload_n C.1.1 C.1.2.1 dX11_line_58 rfl (lv_at hl 1 rfl) ?_
            refine r_iald C hw shM_21 ltM_21 (Nat.le_of_ble_eq_true rfl) dX11_line_59 hf (fun v59 hf => ?_)
            refine lv_goto (tgt := 69) C.1.1 C.1.2.1 dX11_line_60 (by decide) ?_
            exact r_retI C hw dX11_line_69 hf
        · refine lv_aload_n C.1.1 C.1.2.1 dX11_line_40 rfl (lv_at hl 0 rfl) ?_
          refine r_getR (k := 24) C hw shM_0 ltM_0 cO11 rfl (by decide) tw5_168 rfl dX11_line_41 ?_
          refine lv_iload_n C.1.1 C.1.2.1 dX11_line_44 rfl (lv_at hl 1 rfl) ?_
          refine r_iald C hw shM_10 ltM_10 (Nat.le_of_ble_eq_true rfl) dX11_line_45 hf (fun v45 hf => ?_)
          refine lv_goto (tgt := 69) C.1.1 C.1.2.1 dX11_line_46 (by decide) ?_
          exact r_retI C hw dX11_line_69 hf
      · refine r_iconst (v := (-1)) C dX11_line_30 ?_
        exact r_retI C hw dX11_line_31 hf
def f_X11_noiseFor (N : Nat) (S : S2) (a1 : Int) : Option (Int × S2) := gI S 0 29 fun v1 => cI v1 0 (if v1 = 0 then rI (-1) S else bI (f_X11_in N S a1 1 48) fun v11 S11 => cI v11 0 (if v11 = 0 then rI (-1) S11 else bV (f_X11_finds N S11) fun S20 => gI S20 0 35 fun v25 => cI a1 v25 (if v25 ≤ a1 then rI 0 S20 else bI (f_X11_life N S20 a1) fun v33 S33 => rI v33 S33)))
abbrev rmX11_noiseFor : Room := { frames := 4, cells := 0, slots := 0, locals := 93 }
theorem hd_X11_noiseFor : yX11_noiseFor.cls ≠ "java/lang/invoke/MethodHandle" ∧ yX11_noiseFor.cls ≠ "java/lang/invoke/VarHandle" ∧ (parseMethodDescriptor yX11_noiseFor.desc).map (fun d => d.parameters.length) = some 1 := by decide +kernel
set_option maxRecDepth 100000 in
set_option maxHeartbeats 4000000 in
theorem c_X11_noiseFor (l : Launch) (X : XT) (hinj : XInj X nM) (hZ : ZOK (Zm X)) (N : Nat) (S : S2) (a1 : Int) (out : Int × S2) (hf : f_X11_noiseFor N S a1 = some out) : MI l X shM nM (Zm X) yX11_noiseFor cX11_noiseFor 2 (some .int) rmX11_noiseFor [.ref (X.2.2 0), .int (iz a1)] S out := by
  refine met_I (own := RX11) (by decide) rfl hinj hZ (Nat.le_of_ble_eq_true rfl) (fun p e s m args below meth c C ls H locs hw hl => ?_)
  unfold f_X11_noiseFor at hf
  have hl : lv_has ls 2 [(0, .ref (X.2.2 0)), (1, .int (iz a1))] := hl
  refine lv_aload_n C.1.1 C.1.2.1 dX11_noiseFor_0 rfl (lv_at hl 0 rfl) ?_
  refine r_getI (k := 29) C hw shM_0 ltM_0 cO11 rfl (by decide) tw5_173 rfl dX11_noiseFor_1 hf (fun v1 hf => ?_)
  refine r_if_eq C (tgt := 17) dX11_noiseFor_4 (by decide) hf (fun hf => ?_) (fun hf => ?_)
  · refine r_iconst (v := (-1)) C dX11_noiseFor_17 ?_
    exact r_retI C hw dX11_noiseFor_18 hf
  · refine lv_iload_n C.1.1 C.1.2.1 dX11_noiseFor_7 rfl (lv_at hl 1 rfl) ?_
    refine r_iconst (v := 1) C dX11_noiseFor_8 ?_
    refine r_bipush (v := 48) C dX11_noiseFor_9 (by decide) ?_
    refine r_scallI (As := [.int (iz a1), .int (iz 1), .int (iz 48)]) (rest := []) (rm := rmX11_in) C hw tw6_77 tw6_78 tw1_12 tw6_79 hd_X11_in rfl ⟨⟨rfl, rfl⟩, Nat.le_of_ble_eq_true rfl, Nat.le_of_ble_eq_true rfl⟩ hl.1 rfl (Nat.le_of_ble_eq_true rfl) dX11_noiseFor_11 hf (fun o ho => c_X11_in l X hinj hZ N S a1 1 48 o ho) (fun v11 S11 H locs hf hw => ?_)
    refine r_if_ne C (tgt := 19) dX11_noiseFor_14 (by decide) hf (fun hf => ?_) (fun hf => ?_)
    · refine lv_aload_n C.1.1 C.1.2.1 dX11_noiseFor_19 rfl (lv_at hl 0 rfl) ?_
      refine r_callV (As := []) (rest := []) (rm := rmX11_finds) C hw shM_0 ltM_0 cO11 tw7_1 tw7_3 tp_70 tw1_12 tw7_4 hd_X11_finds rfl ⟨⟨rfl, rfl⟩, Nat.le_of_ble_eq_true rfl, Nat.le_of_ble_eq_true rfl⟩ hl.1 rfl (Nat.le_of_ble_eq_true rfl) dX11_noiseFor_20 hf (fun o ho => c_X11_finds l X hinj hZ N S11 o ho) (fun S20 H locs hf hw => ?_)
      refine lv_iload_n C.1.1 C.1.2.1 dX11_noiseFor_23 rfl (lv_at hl 1 rfl) ?_
      refine lv_aload_n C.1.1 C.1.2.1 dX11_noiseFor_24 rfl (lv_at hl 0 rfl) ?_
      refine r_getI (k := 35) C hw shM_0 ltM_0 cO11 rfl (by decide) tw5_179 rfl dX11_noiseFor_25 hf (fun v25 hf => ?_)
      refine r_icmp_ge C (tgt := 39) dX11_noiseFor_28 (by decide) hf (fun hf => ?_) (fun hf => ?_)
      · refine r_iconst (v := 0) C dX11_noiseFor_39 ?_
        exact r_retI C hw dX11_noiseFor_40 hf
      · refine lv_aload_n C.1.1 C.1.2.1 dX11_noiseFor_31 rfl (lv_at hl 0 rfl) ?_
        refine lv_iload_n C.1.1 C.1.2.1 dX11_noiseFor_32 rfl (lv_at hl 1 rfl) ?_
        refine r_callI (As := [.int (iz a1)]) (rest := []) (rm := rmX11_life) C hw shM_0 ltM_0 cO11 tw7_174 tw7_176 tp_96 tw1_12 tw7_177 hd_X11_life rfl ⟨⟨rfl, rfl⟩, Nat.le_of_ble_eq_true rfl, Nat.le_of_ble_eq_true rfl⟩ hl.1 rfl (Nat.le_of_ble_eq_true rfl) dX11_noiseFor_33 hf (fun o ho => c_X11_life l X hinj hZ N S20 a1 o ho) (fun v33 S33 H locs hf hw => ?_)
        refine lv_goto (tgt := 40) C.1.1 C.1.2.1 dX11_noiseFor_36 (by decide) ?_
        exact r_retI C hw dX11_noiseFor_40 hf
    · refine r_iconst (v := (-1)) C dX11_noiseFor_17 ?_
      exact r_retI C hw dX11_noiseFor_18 hf
def f_X11_room_34 : Nat → Int → Int → S2 → Option (Int × S2)
  | 0, _, _, _ => none
  | N + 1, x2, x3, S => aI S 8 231 49 fun v40 => bI (f_X11_in N S (v40 + ((x3 + 1) * x2)) 0 999) fun v51 S51 => cI v51 0 (if v51 = 0 then rI x3 S51 else aI S51 8 231 49 fun v64 => bI (f_X11_keptBy N S51 (v64 + ((x3 + 1) * x2))) fun v71 S71 => gI S71 0 38 fun v75 => cI v71 v75 (if v71 = v75 then (f_X11_room_34 N) x2 (x3 + 1) S71 else rI x3 S71))
def f_X11_room_31 (N : Nat) (y0 : Int) (S : S2) : Option (Int × S2) := (f_X11_room_34 N) y0 0 S
def f_X11_room (N : Nat) (S : S2) (a1 : Int) : Option (Int × S2) := gI S 0 29 fun v1 => cI v1 0 (if v1 = 0 then rI (-1) S else bI (f_X11_in N S a1 0 1) fun v10 S10 => cI v10 0 (if v10 = 0 then rI (-1) S10 else bV (f_X11_finds N S10) fun S19 => cI a1 0 (if a1 = 0 then (f_X11_room_31 N) 1 S19 else (f_X11_room_31 N) (-1) S19)))
abbrev rmX11_room : Room := { frames := 4, cells := 0, slots := 0, locals := 93 }
theorem hd_X11_room : yX11_room.cls ≠ "java/lang/invoke/MethodHandle" ∧ yX11_room.cls ≠ "java/lang/invoke/VarHandle" ∧ (parseMethodDescriptor yX11_room.desc).map (fun d => d.parameters.length) = some 1 := by decide +kernel
set_option maxRecDepth 100000 in
set_option maxHeartbeats 4000000 in
theorem w_X11_room_34 {p : Program} (l : Launch) {e : Env} {s : State} {m : MethodId} {args : Array Value} {below : List Frame} {meth : Method} {c : Code} {X : XT} (hinj : XInj X nM) (hZ : ZOK (Zm X)) (C : CX p s m args meth c cX11_room 4 RX11 (some .int) X nM (Zm X)) (out : Int × S2) : ∀ (N : Nat), ∀ (x2 : Int) (x3 : Int) (S : S2) (H : Heap) (locs : List Loc) (ls : Array Slot), f_X11_room_34 N x2 x3 S = some out → WH X shM nM s S H locs → lv_has ls 4 [(0, .ref (X.2.2 0)), (2, .int (iz x2)), (3, .int (iz x3))] → W p l e rmX11_room s m args below meth c H locs 0 0 (QI X shM nM s args below out) (F0 m 34 ls []) := by
  intro N
  induction N with
  | zero => intro x2 x3 S H locs ls hf hw hl; cases hf
  | succ N ih =>
    intro x2 x3 S H locs ls hf hw hl
    rw [f_X11_room_34.eq_2] at hf
    refine lv_aload_n C.1.1 C.1.2.1 dX11_room_34 rfl (lv_at hl 0 rfl) ?_
    refine r_getR (k := 22) C hw shM_0 ltM_0 cO11 rfl (by decide) tw5_166 rfl dX11_room_35 ?_
    refine r_bipush (v := 49) C dX11_room_38 (by decide) ?_
    refine r_iald C hw shM_8 ltM_8 (Nat.le_of_ble_eq_true rfl) dX11_room_40 hf (fun v40 hf => ?_)
    refine lv_iload_n C.1.1 C.1.2.1 dX11_room_41 rfl (lv_at hl 2 rfl) ?_
    refine r_iconst (v := 1) C dX11_room_42 ?_
    refine r_iadd C dX11_room_43 ?_
    refine lv_iload_n C.1.1 C.1.2.1 dX11_room_44 rfl (lv_at hl 1 rfl) ?_
    refine r_imul C dX11_room_45 ?_
    refine r_iadd C dX11_room_46 ?_
    refine r_iconst (v := 0) C dX11_room_47 ?_
    refine r_sipush (v := 999) C dX11_room_48 (by decide) ?_
    refine r_scallI (As := [.int (iz (v40 + ((x3 + 1) * x2))), .int (iz 0), .int (iz 999)]) (rest := []) (rm := rmX11_in) C hw tw6_77 tw6_78 tw1_12 tw6_79 hd_X11_in rfl ⟨⟨rfl, rfl⟩, Nat.le_of_ble_eq_true rfl, Nat.le_of_ble_eq_true rfl⟩ hl.1 rfl (Nat.le_of_ble_eq_true rfl) dX11_room_51 hf (fun o ho => c_X11_in l X hinj hZ N S (v40 + ((x3 + 1) * x2)) 0 999 o ho) (fun v51 S51 H locs hf hw => ?_)
    refine r_if_eq C (tgt := 87) dX11_room_54 (by decide) hf (fun hf => ?_) (fun hf => ?_)
    · refine lv_iload_n C.1.1 C.1.2.1 dX11_room_87 rfl (lv_at hl 2 rfl) ?_
      exact r_retI C hw dX11_room_88 hf
    · refine lv_aload_n C.1.1 C.1.2.1 dX11_room_57 rfl (lv_at hl 0 rfl) ?_
      refine lv_aload_n C.1.1 C.1.2.1 dX11_room_58 rfl (lv_at hl 0 rfl) ?_
      refine r_getR (k := 22) C hw shM_0 ltM_0 cO11 rfl (by decide) tw5_166 rfl dX11_room_59 ?_
      refine r_bipush (v := 49) C dX11_room_62 (by decide) ?_
      refine r_iald C hw shM_8 ltM_8 (Nat.le_of_ble_eq_true rfl) dX11_room_64 hf (fun v64 hf => ?_)
      refine lv_iload_n C.1.1 C.1.2.1 dX11_room_65 rfl (lv_at hl 2 rfl) ?_
      refine r_iconst (v := 1) C dX11_room_66 ?_
      refine r_iadd C dX11_room_67 ?_
      refine lv_iload_n C.1.1 C.1.2.1 dX11_room_68 rfl (lv_at hl 1 rfl) ?_
      refine r_imul C dX11_room_69 ?_
      refine r_iadd C dX11_room_70 ?_
      refine r_callI (As := [.int (iz (v64 + ((x3 + 1) * x2)))]) (rest := []) (rm := rmX11_keptBy) C hw shM_0 ltM_0 cO11 tw7_238 tw8_0 tp_106 tw1_12 tw8_1 hd_X11_keptBy rfl ⟨⟨rfl, rfl⟩, Nat.le_of_ble_eq_true rfl, Nat.le_of_ble_eq_true rfl⟩ hl.1 rfl (Nat.le_of_ble_eq_true rfl) dX11_room_71 hf (fun o ho => c_X11_keptBy l X hinj hZ N S51 (v64 + ((x3 + 1) * x2)) o ho) (fun v71 S71 H locs hf hw => ?_)
      refine lv_aload_n C.1.1 C.1.2.1 dX11_room_74 rfl (lv_at hl 0 rfl) ?_
      refine r_getI (k := 38) C hw shM_0 ltM_0 cO11 rfl (by decide) tw5_182 rfl dX11_room_75 hf (fun v75 hf => ?_)
      refine r_icmp_ne C (tgt := 87) dX11_room_78 (by decide) hf (fun hf => ?_) (fun hf => ?_)
      · refine lv_iload_n C.1.1 C.1.2.1 dX11_room_87 rfl (lv_at hl 2 rfl) ?_
        exact r_retI C hw dX11_room_88 hf
      · refine lv_iinc (v := iz (x3 + 1)) (lv' := [(3, .int (iz (x3 + 1))), (0, .ref (X.2.2 0)), (2, .int (iz x2))]) C.1.1 C.1.2.1 dX11_room_81 hl (k := 2) rfl (iz_add _ _) (by decide) rfl (fun ls hl => ?_)
        refine lv_goto (tgt := 34) C.1.1 C.1.2.1 dX11_room_84 (by decide) ?_
        exact ih x2 (x3 + 1) S71 H locs ls hf hw (lv_sub hl [1, 2, 0] rfl)
set_option maxRecDepth 100000 in
set_option maxHeartbeats 4000000 in
theorem w_X11_room_31 {p : Program} (l : Launch) {e : Env} {s : State} {m : MethodId} {args : Array Value} {below : List Frame} {meth : Method} {c : Code} {X : XT} (hinj : XInj X nM) (hZ : ZOK (Zm X)) (C : CX p s m args meth c cX11_room 4 RX11 (some .int) X nM (Zm X)) (out : Int × S2) : ∀ (N : Nat), ∀ (y0 : Int) (S : S2) (H : Heap) (locs : List Loc) (ls : Array Slot), f_X11_room_31 N y0 S = some out → WH X shM nM s S H locs → lv_has ls 4 [(0, .ref (X.2.2 0))] → W p l e rmX11_room s m args below meth c H locs 0 0 (QI X shM nM s args below out) (F0 m 31 ls [.int (iz y0)]) := by
  intro N y0 S H locs ls hf hw hl
  unfold f_X11_room_31 at hf
  refine lv_istore_n (lv' := [(2, .int (iz y0)), (0, .ref (X.2.2 0))]) C.1.1 C.1.2.1 dX11_room_31 rfl hl (by decide) rfl (fun ls hl => ?_)
  refine r_iconst (v := 0) C dX11_room_32 ?_
  refine lv_istore_n (lv' := [(3, .int (iz 0)), (2, .int (iz y0)), (0, .ref (X.2.2 0))]) C.1.1 C.1.2.1 dX11_room_33 rfl hl (by decide) rfl (fun ls hl => ?_)
  exact (w_X11_room_34 l hinj hZ C out N) y0 0 S H locs ls hf hw (lv_sub hl [2, 1, 0] rfl)
set_option maxRecDepth 100000 in
set_option maxHeartbeats 4000000 in
theorem c_X11_room (l : Launch) (X : XT) (hinj : XInj X nM) (hZ : ZOK (Zm X)) (N : Nat) (S : S2) (a1 : Int) (out : Int × S2) (hf : f_X11_room N S a1 = some out) : MI l X shM nM (Zm X) yX11_room cX11_room 4 (some .int) rmX11_room [.ref (X.2.2 0), .int (iz a1)] S out := by
  refine met_I (own := RX11) (by decide) rfl hinj hZ (Nat.le_of_ble_eq_true rfl) (fun p e s m args below meth c C ls H locs hw hl => ?_)
  unfold f_X11_room at hf
  have hl : lv_has ls 4 [(0, .ref (X.2.2 0)), (1, .int (iz a1))] := hl
  refine lv_aload_n C.1.1 C.1.2.1 dX11_room_0 rfl (lv_at hl 0 rfl) ?_
  refine r_getI (k := 29) C hw shM_0 ltM_0 cO11 rfl (by decide) tw5_173 rfl dX11_room_1 hf (fun v1 hf => ?_)
  refine r_if_eq C (tgt := 16) dX11_room_4 (by decide) hf (fun hf => ?_) (fun hf => ?_)
  · refine r_iconst (v := (-1)) C dX11_room_16 ?_
    exact r_retI C hw dX11_room_17 hf
  · refine lv_iload_n C.1.1 C.1.2.1 dX11_room_7 rfl (lv_at hl 1 rfl) ?_
    refine r_iconst (v := 0) C dX11_room_8 ?_
    refine r_iconst (v := 1) C dX11_room_9 ?_
    refine r_scallI (As := [.int (iz a1), .int (iz 0), .int (iz 1)]) (rest := []) (rm := rmX11_in) C hw tw6_77 tw6_78 tw1_12 tw6_79 hd_X11_in rfl ⟨⟨rfl, rfl⟩, Nat.le_of_ble_eq_true rfl, Nat.le_of_ble_eq_true rfl⟩ hl.1 rfl (Nat.le_of_ble_eq_true rfl) dX11_room_10 hf (fun o ho => c_X11_in l X hinj hZ N S a1 0 1 o ho) (fun v10 S10 H locs hf hw => ?_)
    refine r_if_ne C (tgt := 18) dX11_room_13 (by decide) hf (fun hf => ?_) (fun hf => ?_)
    · refine lv_aload_n C.1.1 C.1.2.1 dX11_room_18 rfl (lv_at hl 0 rfl) ?_
      refine r_callV (As := []) (rest := []) (rm := rmX11_finds) C hw shM_0 ltM_0 cO11 tw7_1 tw7_3 tp_70 tw1_12 tw7_4 hd_X11_finds rfl ⟨⟨rfl, rfl⟩, Nat.le_of_ble_eq_true rfl, Nat.le_of_ble_eq_true rfl⟩ hl.1 rfl (Nat.le_of_ble_eq_true rfl) dX11_room_19 hf (fun o ho => c_X11_finds l X hinj hZ N S10 o ho) (fun S19 H locs hf hw => ?_)
      refine lv_iload_n C.1.1 C.1.2.1 dX11_room_22 rfl (lv_at hl 1 rfl) ?_
      refine r_if_ne C (tgt := 30) dX11_room_23 (by decide) hf (fun hf => ?_) (fun hf => ?_)
      · refine r_iconst (v := (-1)) C dX11_room_30 ?_
        exact (w_X11_room_31 l hinj hZ C out N) (-1) S19 H locs ls hf hw (lv_sub hl [0] rfl)
      · refine r_iconst (v := 1) C dX11_room_26 ?_
        refine lv_goto (tgt := 31) C.1.1 C.1.2.1 dX11_room_27 (by decide) ?_
        exact (w_X11_room_31 l hinj hZ C out N) 1 S19 H locs ls hf hw (lv_sub hl [0] rfl)
    · refine r_iconst (v := (-1)) C dX11_room_16 ?_
      exact r_retI C hw dX11_room_17 hf
def f_X11_image_36 (N : Nat) (S : S2) : Option (Int × S2) := uZ S 0 47 1 fun S38 => bI (f_X11_keptNow N S38) fun v42 S42 => rI v42 S42
def f_X11_image_11 (k36 : S2 → Option (Int × S2)) : Nat → Int → S2 → Option (Int × S2)
  | 0, _, _ => none
  | N + 1, x1, S => cI x1 231 (if 231 ≤ x1 then k36 S else aI S 8 231 x1 fun v28 => sI S 24 231 x1 v28 fun S29 => (f_X11_image_11 k36 N) (x1 + 1) S29)
def f_X11_image (N : Nat) (S : S2) : Option (Int × S2) := gI S 0 29 fun v1 => cI v1 0 (if v1 = 0 then rI (-1) S else (f_X11_image_11 (f_X11_image_36 N) N) 0 S)
abbrev rmX11_image : Room := { frames := 5, cells := 0, slots := 0, locals := 113 }
theorem hd_X11_image : yX11_image.cls ≠ "java/lang/invoke/MethodHandle" ∧ yX11_image.cls ≠ "java/lang/invoke/VarHandle" ∧ (parseMethodDescriptor yX11_image.desc).map (fun d => d.parameters.length) = some 0 := by decide +kernel
set_option maxRecDepth 100000 in
set_option maxHeartbeats 4000000 in
theorem w_X11_image_36 {p : Program} (l : Launch) {e : Env} {s : State} {m : MethodId} {args : Array Value} {below : List Frame} {meth : Method} {c : Code} {X : XT} (hinj : XInj X nM) (hZ : ZOK (Zm X)) (C : CX p s m args meth c cX11_image 2 RX11 (some .int) X nM (Zm X)) (out : Int × S2) : ∀ (N : Nat), ∀ (S : S2) (H : Heap) (locs : List Loc) (ls : Array Slot), f_X11_image_36 N S = some out → WH X shM nM s S H locs → lv_has ls 2 [(0, .ref (X.2.2 0))] → W p l e rmX11_image s m args below meth c H locs 0 0 (QI X shM nM s args below out) (F0 m 36 ls []) := by
  intro N S H locs ls hf hw hl
  unfold f_X11_image_36 at hf
  refine lv_aload_n C.1.1 C.1.2.1 dX11_image_36 rfl (lv_at hl 0 rfl) ?_
  refine r_iconst (v := 1) C dX11_image_37 ?_
  refine r_putZ (k := 47) C hw shM_0 ltM_0 cO11 rfl (by decide) tw5_191 rfl rfl rfl dX11_image_38 hf (fun S38 H locs hf hw => ?_)
  refine lv_aload_n C.1.1 C.1.2.1 dX11_image_41 rfl (lv_at hl 0 rfl) ?_
  refine r_callI (As := []) (rest := []) (rm := rmX11_keptNow) C hw shM_0 ltM_0 cO11 tw6_237 tw6_239 tp_69 tw1_12 tw7_0 hd_X11_keptNow rfl ⟨⟨rfl, rfl⟩, Nat.le_of_ble_eq_true rfl, Nat.le_of_ble_eq_true rfl⟩ hl.1 rfl (Nat.le_of_ble_eq_true rfl) dX11_image_42 hf (fun o ho => c_X11_keptNow l X hinj hZ N S38 o ho) (fun v42 S42 H locs hf hw => ?_)
  exact r_retI C hw dX11_image_45 hf
set_option maxRecDepth 100000 in
set_option maxHeartbeats 4000000 in
theorem w_X11_image_11 {p : Program} (l : Launch) {e : Env} {s : State} {m : MethodId} {args : Array Value} {below : List Frame} {meth : Method} {c : Code} {X : XT} (hinj : XInj X nM) (hZ : ZOK (Zm X)) (C : CX p s m args meth c cX11_image 2 RX11 (some .int) X nM (Zm X)) (out : Int × S2) (k36 : S2 → Option (Int × S2)) (hk36 : ∀ (S : S2) (H : Heap) (locs : List Loc) (ls : Array Slot), k36 S = some out → WH X shM nM s S H locs → lv_has ls 2 [(0, .ref (X.2.2 0))] → W p l e rmX11_image s m args below meth c H locs 0 0 (QI X shM nM s args below out) (F0 m 36 ls [])) : ∀ (N : Nat), ∀ (x1 : Int) (S : S2) (H : Heap) (locs : List Loc) (ls : Array Slot), f_X11_image_11 k36 N x1 S = some out → WH X shM nM s S H locs → lv_has ls 2 [(0, .ref (X.2.2 0)), (1, .int (iz x1))] → W p l e rmX11_image s m args below meth c H locs 0 0 (QI X shM nM s args below out) (F0 m 11 ls []) := by
  intro N
  induction N with
  | zero => intro x1 S H locs ls hf hw hl; cases hf
  | succ N ih =>
    intro x1 S H locs ls hf hw hl
    rw [f_X11_image_11.eq_2] at hf
    refine lv_iload_n C.1.1 C.1.2.1 dX11_image_11 rfl (lv_at hl 1 rfl) ?_
    refine r_sipush (v := 231) C dX11_image_12 (by decide) ?_
    refine r_icmp_ge C (tgt := 36) dX11_image_15 (by decide) hf (fun hf => ?_) (fun hf => ?_)
    · exact hk36 S H locs ls hf hw (lv_sub hl [0] rfl)
    · refine lv_aload_n C.1.1 C.1.2.1 dX11_image_18 rfl (lv_at hl 0 rfl) ?_
      refine r_getR (k := 46) C hw shM_0 ltM_0 cO11 rfl (by decide) tw5_190 rfl dX11_image_19 ?_
      refine lv_iload_n C.1.1 C.1.2.1 dX11_image_22 rfl (lv_at hl 1 rfl) ?_
      refine lv_aload_n C.1.1 C.1.2.1 dX11_image_23 rfl (lv_at hl 0 rfl) ?_
      refine r_getR (k := 22) C hw shM_0 ltM_0 cO11 rfl (by decide) tw5_166 rfl dX11_image_24 ?_
      refine lv_iload_n C.1.1 C.1.2.1 dX11_image_27 rfl (lv_at hl 1 rfl) ?_
      refine r_iald C hw shM_8 ltM_8 (Nat.le_of_ble_eq_true rfl) dX11_image_28 hf (fun v28 hf => ?_)
      refine r_iast C hw shM_24 ltM_24 (Nat.le_of_ble_eq_true rfl) dX11_image_29 hf (fun S29 H locs hf hw => ?_)
      refine lv_iinc (v := iz (x1 + 1)) (lv' := [(1, .int (iz (x1 + 1))), (0, .ref (X.2.2 0))]) C.1.1 C.1.2.1 dX11_image_30 hl (k := 1) rfl (iz_add _ _) (by decide) rfl (fun ls hl => ?_)
      refine lv_goto (tgt := 11) C.1.1 C.1.2.1 dX11_image_33 (by decide) ?_
      exact ih (x1 + 1) S29 H locs ls hf hw (lv_sub hl [1, 0] rfl)
set_option maxRecDepth 100000 in
set_option maxHeartbeats 4000000 in
theorem c_X11_image (l : Launch) (X : XT) (hinj : XInj X nM) (hZ : ZOK (Zm X)) (N : Nat) (S : S2) (out : Int × S2) (hf : f_X11_image N S = some out) : MI l X shM nM (Zm X) yX11_image cX11_image 2 (some .int) rmX11_image [.ref (X.2.2 0)] S out := by
  refine met_I (own := RX11) (by decide) rfl hinj hZ (Nat.le_of_ble_eq_true rfl) (fun p e s m args below meth c C ls H locs hw hl => ?_)
  unfold f_X11_image at hf
  have hl : lv_has ls 2 [(0, .ref (X.2.2 0))] := hl
  refine lv_aload_n C.1.1 C.1.2.1 dX11_image_0 rfl (lv_at hl 0 rfl) ?_
  refine r_getI (k := 29) C hw shM_0 ltM_0 cO11 rfl (by decide) tw5_173 rfl dX11_image_1 hf (fun v1 hf => ?_)
  refine r_if_ne C (tgt := 9) dX11_image_4 (by decide) hf (fun hf => ?_) (fun hf => ?_)
  · refine r_iconst (v := 0) C dX11_image_9 ?_
    refine lv_istore_n (lv' := [(1, .int (iz 0)), (0, .ref (X.2.2 0))]) C.1.1 C.1.2.1 dX11_image_10 rfl hl (by decide) rfl (fun ls hl => ?_)
    exact (w_X11_image_11 l hinj hZ C out (f_X11_image_36 N) (w_X11_image_36 l hinj hZ C out N) N) 0 S H locs ls hf hw (lv_sub hl [1, 0] rfl)
  · refine r_iconst (v := (-1)) C dX11_image_7 ?_
    exact r_retI C hw dX11_image_8 hf
def f_X11_back_36 (N : Nat) (S : S2) : Option (Int × S2) := uI S 0 44 0 fun S38 => bI (f_X11_keptNow N S38) fun v42 S42 => rI v42 S42
def f_X11_back_11 (k36 : S2 → Option (Int × S2)) : Nat → Int → S2 → Option (Int × S2)
  | 0, _, _ => none
  | N + 1, x1, S => cI x1 231 (if 231 ≤ x1 then k36 S else aI S 24 231 x1 fun v28 => sI S 8 231 x1 v28 fun S29 => (f_X11_back_11 k36 N) (x1 + 1) S29)
def f_X11_back (N : Nat) (S : S2) : Option (Int × S2) := gI S 0 47 fun v1 => cI v1 0 (if v1 = 0 then rI (-1) S else (f_X11_back_11 (f_X11_back_36 N) N) 0 S)
abbrev rmX11_back : Room := { frames := 5, cells := 0, slots := 0, locals := 113 }
theorem hd_X11_back : yX11_back.cls ≠ "java/lang/invoke/MethodHandle" ∧ yX11_back.cls ≠ "java/lang/invoke/VarHandle" ∧ (parseMethodDescriptor yX11_back.desc).map (fun d => d.parameters.length) = some 0 := by decide +kernel
set_option maxRecDepth 100000 in
set_option maxHeartbeats 4000000 in
theorem w_X11_back_36 {p : Program} (l : Launch) {e : Env} {s : State} {m : MethodId} {args : Array Value} {below : List Frame} {meth : Method} {c : Code} {X : XT} (hinj : XInj X nM) (hZ : ZOK (Zm X)) (C : CX p s m args meth c cX11_back 2 RX11 (some .int) X nM (Zm X)) (out : Int × S2) : ∀ (N : Nat), ∀ (S : S2) (H : Heap) (locs : List Loc) (ls : Array Slot), f_X11_back_36 N S = some out → WH X shM nM s S H locs → lv_has ls 2 [(0, .ref (X.2.2 0))] → W p l e rmX11_back s m args below meth c H locs 0 0 (QI X shM nM s args below out) (F0 m 36 ls []) := by
  intro N S H locs ls hf hw hl
  unfold f_X11_back_36 at hf
  refine lv_aload_n C.1.1 C.1.2.1 dX11_back_36 rfl (lv_at hl 0 rfl) ?_
  refine r_iconst (v := 0) C dX11_back_37 ?_
  refine r_putI (k := 44) C hw shM_0 ltM_0 cO11 rfl (by decide) tw5_188 rfl rfl rfl dX11_back_38 hf (fun S38 H locs hf hw => ?_)
  refine lv_aload_n C.1.1 C.1.2.1 dX11_back_41 rfl (lv_at hl 0 rfl) ?_
  refine r_callI (As := []) (rest := []) (rm := rmX11_keptNow) C hw shM_0 ltM_0 cO11 tw6_237 tw6_239 tp_69 tw1_12 tw7_0 hd_X11_keptNow rfl ⟨⟨rfl, rfl⟩, Nat.le_of_ble_eq_true rfl, Nat.le_of_ble_eq_true rfl⟩ hl.1 rfl (Nat.le_of_ble_eq_true rfl) dX11_back_42 hf (fun o ho => c_X11_keptNow l X hinj hZ N S38 o ho) (fun v42 S42 H locs hf hw => ?_)
  exact r_retI C hw dX11_back_45 hf
set_option maxRecDepth 100000 in
set_option maxHeartbeats 4000000 in
theorem w_X11_back_11 {p : Program} (l : Launch) {e : Env} {s : State} {m : MethodId} {args : Array Value} {below : List Frame} {meth : Method} {c : Code} {X : XT} (hinj : XInj X nM) (hZ : ZOK (Zm X)) (C : CX p s m args meth c cX11_back 2 RX11 (some .int) X nM (Zm X)) (out : Int × S2) (k36 : S2 → Option (Int × S2)) (hk36 : ∀ (S : S2) (H : Heap) (locs : List Loc) (ls : Array Slot), k36 S = some out → WH X shM nM s S H locs → lv_has ls 2 [(0, .ref (X.2.2 0))] → W p l e rmX11_back s m args below meth c H locs 0 0 (QI X shM nM s args below out) (F0 m 36 ls [])) : ∀ (N : Nat), ∀ (x1 : Int) (S : S2) (H : Heap) (locs : List Loc) (ls : Array Slot), f_X11_back_11 k36 N x1 S = some out → WH X shM nM s S H locs → lv_has ls 2 [(0, .ref (X.2.2 0)), (1, .int (iz x1))] → W p l e rmX11_back s m args below meth c H locs 0 0 (QI X shM nM s args below out) (F0 m 11 ls []) := by
  intro N
  induction N with
  | zero => intro x1 S H locs ls hf hw hl; cases hf
  | succ N ih =>
    intro x1 S H locs ls hf hw hl
    rw [f_X11_back_11.eq_2] at hf
    refine lv_iload_n C.1.1 C.1.2.1 dX11_back_11 rfl (lv_at hl 1 rfl) ?_
    refine r_sipush (v := 231) C dX11_back_12 (by decide) ?_
    refine r_icmp_ge C (tgt := 36) dX11_back_15 (by decide) hf (fun hf => ?_) (fun hf => ?_)
    · exact hk36 S H locs ls hf hw (lv_sub hl [0] rfl)
    · refine lv_aload_n C.1.1 C.1.2.1 dX11_back_18 rfl (lv_at hl 0 rfl) ?_
      refine r_getR (k := 22) C hw shM_0 ltM_0 cO11 rfl (by decide) tw5_166 rfl dX11_back_19 ?_
      refine lv_iload_n C.1.1 C.1.2.1 dX11_back_22 rfl (lv_at hl 1 rfl) ?_
      refine lv_aload_n C.1.1 C.1.2.1 dX11_back_23 rfl (lv_at hl 0 rfl) ?_
      refine r_getR (k := 46) C hw shM_0 ltM_0 cO11 rfl (by decide) tw5_190 rfl dX11_back_24 ?_
      refine lv_iload_n C.1.1 C.1.2.1 dX11_back_27 rfl (lv_at hl 1 rfl) ?_
      refine r_iald C hw shM_24 ltM_24 (Nat.le_of_ble_eq_true rfl) dX11_back_28 hf (fun v28 hf => ?_)
      refine r_iast C hw shM_8 ltM_8 (Nat.le_of_ble_eq_true rfl) dX11_back_29 hf (fun S29 H locs hf hw => ?_)
      refine lv_iinc (v := iz (x1 + 1)) (lv' := [(1, .int (iz (x1 + 1))), (0, .ref (X.2.2 0))]) C.1.1 C.1.2.1 dX11_back_30 hl (k := 1) rfl (iz_add _ _) (by decide) rfl (fun ls hl => ?_)
      refine lv_goto (tgt := 11) C.1.1 C.1.2.1 dX11_back_33 (by decide) ?_
      exact ih (x1 + 1) S29 H locs ls hf hw (lv_sub hl [1, 0] rfl)
set_option maxRecDepth 100000 in
set_option maxHeartbeats 4000000 in
theorem c_X11_back (l : Launch) (X : XT) (hinj : XInj X nM) (hZ : ZOK (Zm X)) (N : Nat) (S : S2) (out : Int × S2) (hf : f_X11_back N S = some out) : MI l X shM nM (Zm X) yX11_back cX11_back 2 (some .int) rmX11_back [.ref (X.2.2 0)] S out := by
  refine met_I (own := RX11) (by decide) rfl hinj hZ (Nat.le_of_ble_eq_true rfl) (fun p e s m args below meth c C ls H locs hw hl => ?_)
  unfold f_X11_back at hf
  have hl : lv_has ls 2 [(0, .ref (X.2.2 0))] := hl
  refine lv_aload_n C.1.1 C.1.2.1 dX11_back_0 rfl (lv_at hl 0 rfl) ?_
  refine r_getI (k := 47) C hw shM_0 ltM_0 cO11 rfl (by decide) tw5_191 rfl dX11_back_1 hf (fun v1 hf => ?_)
  refine r_if_ne C (tgt := 9) dX11_back_4 (by decide) hf (fun hf => ?_) (fun hf => ?_)
  · refine r_iconst (v := 0) C dX11_back_9 ?_
    refine lv_istore_n (lv' := [(1, .int (iz 0)), (0, .ref (X.2.2 0))]) C.1.1 C.1.2.1 dX11_back_10 rfl hl (by decide) rfl (fun ls hl => ?_)
    exact (w_X11_back_11 l hinj hZ C out (f_X11_back_36 N) (w_X11_back_36 l hinj hZ C out N) N) 0 S H locs ls hf hw (lv_sub hl [1, 0] rfl)
  · refine r_iconst (v := (-1)) C dX11_back_7 ?_
    exact r_retI C hw dX11_back_8 hf
def f_X11_unlike_122 (k92 : Int → Int → S2 → Option (Int × S2)) (N : Nat) (x2 : Int) (y0 : Int) (y1 : Int) (y2 : Int) (S : S2) : Option (Int × S2) := bI (f_X11_apart N S y1 y0) fun v122 S122 => k92 (y2 + v122) (x2 + 1) S122
def f_X11_unlike_92 : Nat → Int → Int → S2 → Option (Int × S2)
  | 0, _, _, _ => none
  | N + 1, x1, x2, S => cI x2 48 (if 48 ≤ x2 then rI x1 S else aI S 26 48 x2 fun v104 => gI S 0 35 fun v107 => cI x2 v107 (if v107 ≤ x2 then (f_X11_unlike_122 (f_X11_unlike_92 N) N) x2 0 v104 x1 S else bI (f_X11_life N S x2) fun v115 S115 => (f_X11_unlike_122 (f_X11_unlike_92 N) N) x2 v115 v104 x1 S115))
def f_X11_unlike_80 (N : Nat) (S : S2) : Option (Int × S2) := bV (f_X11_bringBack N S) fun S81 => bV (f_X11_finds N S81) fun S85 => (f_X11_unlike_92 N) 0 0 S85
def f_X11_unlike_73 (k45 : Int → S2 → Option (Int × S2)) (N : Nat) (x1 : Int) (y0 : Int) (y1 : Int) (S : S2) : Option (Int × S2) := sI S 26 48 y1 y0 fun S73 => k45 (x1 + 1) S73
def f_X11_unlike_45 (k80 : S2 → Option (Int × S2)) : Nat → Int → S2 → Option (Int × S2)
  | 0, _, _ => none
  | N + 1, x1, S => cI x1 48 (if 48 ≤ x1 then k80 S else gI S 0 35 fun v58 => cI x1 v58 (if v58 ≤ x1 then (f_X11_unlike_73 (f_X11_unlike_45 k80 N) N) x1 0 x1 S else bI (f_X11_life N S x1) fun v66 S66 => (f_X11_unlike_73 (f_X11_unlike_45 k80 N) N) x1 v66 x1 S66))
def f_X11_unlike_39 (N : Nat) (S : S2) : Option (Int × S2) := bV (f_X11_finds N S) fun S40 => (f_X11_unlike_45 (f_X11_unlike_80 N) N) 0 S40
def f_X11_unlike_15 (k39 : S2 → Option (Int × S2)) : Nat → Int → S2 → Option (Int × S2)
  | 0, _, _ => none
  | N + 1, x1, S => cI x1 50 (if 50 ≤ x1 then k39 S else aI S 24 231 x1 fun v31 => sI S 8 231 x1 v31 fun S32 => (f_X11_unlike_15 k39 N) (x1 + 1) S32)
def f_X11_unlike (N : Nat) (S : S2) : Option (Int × S2) := gI S 0 47 fun v1 => cI v1 0 (if v1 = 0 then rI (-1) S else bV (f_X11_putAside N S) fun S10 => (f_X11_unlike_15 (f_X11_unlike_39 N) N) 0 S10)
abbrev rmX11_unlike : Room := { frames := 4, cells := 0, slots := 0, locals := 93 }
theorem hd_X11_unlike : yX11_unlike.cls ≠ "java/lang/invoke/MethodHandle" ∧ yX11_unlike.cls ≠ "java/lang/invoke/VarHandle" ∧ (parseMethodDescriptor yX11_unlike.desc).map (fun d => d.parameters.length) = some 0 := by decide +kernel
set_option maxRecDepth 100000 in
set_option maxHeartbeats 4000000 in
theorem w_X11_unlike_122 {p : Program} (l : Launch) {e : Env} {s : State} {m : MethodId} {args : Array Value} {below : List Frame} {meth : Method} {c : Code} {X : XT} (hinj : XInj X nM) (hZ : ZOK (Zm X)) (C : CX p s m args meth c cX11_unlike 3 RX11 (some .int) X nM (Zm X)) (out : Int × S2) (k92 : Int → Int → S2 → Option (Int × S2)) (hk92 : ∀ (x1 : Int) (x2 : Int) (S : S2) (H : Heap) (locs : List Loc) (ls : Array Slot), k92 x1 x2 S = some out → WH X shM nM s S H locs → lv_has ls 3 [(0, .ref (X.2.2 0)), (1, .int (iz x1)), (2, .int (iz x2))] → W p l e rmX11_unlike s m args below meth c H locs 0 0 (QI X shM nM s args below out) (F0 m 92 ls [])) : ∀ (N : Nat), ∀ (x2 : Int) (y0 : Int) (y1 : Int) (y2 : Int) (S : S2) (H : Heap) (locs : List Loc) (ls : Array Slot), f_X11_unlike_122 k92 N x2 y0 y1 y2 S = some out → WH X shM nM s S H locs → lv_has ls 3 [(0, .ref (X.2.2 0)), (2, .int (iz x2))] → W p l e rmX11_unlike s m args below meth c H locs 0 0 (QI X shM nM s args below out) (F0 m 122 ls [.int (iz y0), .int (iz y1), .int (iz y2)]) := by
  intro N x2 y0 y1 y2 S H locs ls hf hw hl
  unfold f_X11_unlike_122 at hf
  refine r_scallI (As := [.int (iz y1), .int (iz y0)]) (rest := [.int (iz y2)]) (rm := rmX11_apart) C hw tw7_45 tw7_46 tw1_12 tw7_47 hd_X11_apart rfl ⟨⟨rfl, rfl⟩, Nat.le_of_ble_eq_true rfl, Nat.le_of_ble_eq_true rfl⟩ hl.1 rfl (Nat.le_of_ble_eq_true rfl) dX11_unlike_122 hf (fun o ho => c_X11_apart l X hinj hZ N S y1 y0 o ho) (fun v122 S122 H locs hf hw => ?_)
  refine r_iadd C dX11_unlike_125 ?_
  refine lv_istore_n (lv' := [(1, .int (iz (y2 + v122))), (0, .ref (X.2.2 0)), (2, .int (iz x2))]) C.1.1 C.1.2.1 dX11_unlike_126 rfl hl (by decide) rfl (fun ls hl => ?_)
  refine lv_iinc (v := iz (x2 + 1)) (lv' := [(2, .int (iz (x2 + 1))), (1, .int (iz (y2 + v122))), (0, .ref (X.2.2 0))]) C.1.1 C.1.2.1 dX11_unlike_127 hl (k := 2) rfl (iz_add _ _) (by decide) rfl (fun ls hl => ?_)
  refine lv_goto (tgt := 92) C.1.1 C.1.2.1 dX11_unlike_130 (by decide) ?_
  exact hk92 (y2 + v122) (x2 + 1) S122 H locs ls hf hw (lv_sub hl [2, 1, 0] rfl)
set_option maxRecDepth 100000 in
set_option maxHeartbeats 4000000 in
theorem w_X11_unlike_92 {p : Program} (l : Launch) {e : Env} {s : State} {m : MethodId} {args : Array Value} {below : List Frame} {meth : Method} {c : Code} {X : XT} (hinj : XInj X nM) (hZ : ZOK (Zm X)) (C : CX p s m args meth c cX11_unlike 3 RX11 (some .int) X nM (Zm X)) (out : Int × S2) : ∀ (N : Nat), ∀ (x1 : Int) (x2 : Int) (S : S2) (H : Heap) (locs : List Loc) (ls : Array Slot), f_X11_unlike_92 N x1 x2 S = some out → WH X shM nM s S H locs → lv_has ls 3 [(0, .ref (X.2.2 0)), (1, .int (iz x1)), (2, .int (iz x2))] → W p l e rmX11_unlike s m args below meth c H locs 0 0 (QI X shM nM s args below out) (F0 m 92 ls []) := by
  intro N
  induction N with
  | zero => intro x1 x2 S H locs ls hf hw hl; cases hf
  | succ N ih =>
    intro x1 x2 S H locs ls hf hw hl
    rw [f_X11_unlike_92.eq_2] at hf
    refine lv_iload_n C.1.1 C.1.2.1 dX11_unlike_92 rfl (lv_at hl 2 rfl) ?_
    refine r_bipush (v := 48) C dX11_unlike_93 (by decide) ?_
    refine r_icmp_ge C (tgt := 133) dX11_unlike_95 (by decide) hf (fun hf => ?_) (fun hf => ?_)
    · refine lv_iload_n C.1.1 C.1.2.1 dX11_unlike_133 rfl (lv_at hl 1 rfl) ?_
      exact r_retI C hw dX11_unlike_134 hf
    · refine lv_iload_n C.1.1 C.1.2.1 dX11_unlike_98 rfl (lv_at hl 1 rfl) ?_
      refine lv_aload_n C.1.1 C.1.2.1 dX11_unlike_99 rfl (lv_at hl 0 rfl) ?_
      refine r_getR (k := 49) C hw shM_0 ltM_0 cO11 rfl (by decide) tw5_193 rfl dX11_unlike_100 ?_
      refine lv_iload_n C.1.1 C.1.2.1 dX11_unlike_103 rfl (lv_at hl 2 rfl) ?_
      refine r_iald C hw shM_26 ltM_26 (Nat.le_of_ble_eq_true rfl) dX11_unlike_104 hf (fun v104 hf => ?_)
      refine lv_iload_n C.1.1 C.1.2.1 dX11_unlike_105 rfl (lv_at hl 2 rfl) ?_
      refine lv_aload_n C.1.1 C.1.2.1 dX11_unlike_106 rfl (lv_at hl 0 rfl) ?_
      refine r_getI (k := 35) C hw shM_0 ltM_0 cO11 rfl (by decide) tw5_179 rfl dX11_unlike_107 hf (fun v107 hf => ?_)
      refine r_icmp_ge C (tgt := 121) dX11_unlike_110 (by decide) hf (fun hf => ?_) (fun hf => ?_)
      · refine r_iconst (v := 0) C dX11_unlike_121 ?_
        exact (w_X11_unlike_122 l hinj hZ C out (f_X11_unlike_92 N) ih N) x2 0 v104 x1 S H locs ls hf hw (lv_sub hl [0, 2] rfl)
      · refine lv_aload_n C.1.1 C.1.2.1 dX11_unlike_113 rfl (lv_at hl 0 rfl) ?_
        refine lv_iload_n C.1.1 C.1.2.1 dX11_unlike_114 rfl (lv_at hl 2 rfl) ?_
        refine r_callI (As := [.int (iz x2)]) (rest := [.int (iz v104), .int (iz x1)]) (rm := rmX11_life) C hw shM_0 ltM_0 cO11 tw7_174 tw7_176 tp_96 tw1_12 tw7_177 hd_X11_life rfl ⟨⟨rfl, rfl⟩, Nat.le_of_ble_eq_true rfl, Nat.le_of_ble_eq_true rfl⟩ hl.1 rfl (Nat.le_of_ble_eq_true rfl) dX11_unlike_115 hf (fun o ho => c_X11_life l X hinj hZ N S x2 o ho) (fun v115 S115 H locs hf hw => ?_)
        refine lv_goto (tgt := 122) C.1.1 C.1.2.1 dX11_unlike_118 (by decide) ?_
        exact (w_X11_unlike_122 l hinj hZ C out (f_X11_unlike_92 N) ih N) x2 v115 v104 x1 S115 H locs ls hf hw (lv_sub hl [0, 2] rfl)
set_option maxRecDepth 100000 in
set_option maxHeartbeats 4000000 in
theorem w_X11_unlike_80 {p : Program} (l : Launch) {e : Env} {s : State} {m : MethodId} {args : Array Value} {below : List Frame} {meth : Method} {c : Code} {X : XT} (hinj : XInj X nM) (hZ : ZOK (Zm X)) (C : CX p s m args meth c cX11_unlike 3 RX11 (some .int) X nM (Zm X)) (out : Int × S2) : ∀ (N : Nat), ∀ (S : S2) (H : Heap) (locs : List Loc) (ls : Array Slot), f_X11_unlike_80 N S = some out → WH X shM nM s S H locs → lv_has ls 3 [(0, .ref (X.2.2 0))] → W p l e rmX11_unlike s m args below meth c H locs 0 0 (QI X shM nM s args below out) (F0 m 80 ls []) := by
  intro N S H locs ls hf hw hl
  unfold f_X11_unlike_80 at hf
  refine lv_aload_n C.1.1 C.1.2.1 dX11_unlike_80 rfl (lv_at hl 0 rfl) ?_
  refine r_callV (As := []) (rest := []) (rm := rmX11_bringBack) C hw shM_0 ltM_0 cO11 tw8_18 tw8_20 tp_108 tw1_12 tw8_21 hd_X11_bringBack rfl ⟨⟨rfl, rfl⟩, Nat.le_of_ble_eq_true rfl, Nat.le_of_ble_eq_true rfl⟩ hl.1 rfl (Nat.le_of_ble_eq_true rfl) dX11_unlike_81 hf (fun o ho => c_X11_bringBack l X hinj hZ N S o ho) (fun S81 H locs hf hw => ?_)
  refine lv_aload_n C.1.1 C.1.2.1 dX11_unlike_84 rfl (lv_at hl 0 rfl) ?_
  refine r_callV (As := []) (rest := []) (rm := rmX11_finds) C hw shM_0 ltM_0 cO11 tw7_1 tw7_3 tp_70 tw1_12 tw7_4 hd_X11_finds rfl ⟨⟨rfl, rfl⟩, Nat.le_of_ble_eq_true rfl, Nat.le_of_ble_eq_true rfl⟩ hl.1 rfl (Nat.le_of_ble_eq_true rfl) dX11_unlike_85 hf (fun o ho => c_X11_finds l X hinj hZ N S81 o ho) (fun S85 H locs hf hw => ?_)
  refine r_iconst (v := 0) C dX11_unlike_88 ?_
  refine lv_istore_n (lv' := [(1, .int (iz 0)), (0, .ref (X.2.2 0))]) C.1.1 C.1.2.1 dX11_unlike_89 rfl hl (by decide) rfl (fun ls hl => ?_)
  refine r_iconst (v := 0) C dX11_unlike_90 ?_
  refine lv_istore_n (lv' := [(2, .int (iz 0)), (1, .int (iz 0)), (0, .ref (X.2.2 0))]) C.1.1 C.1.2.1 dX11_unlike_91 rfl hl (by decide) rfl (fun ls hl => ?_)
  exact (w_X11_unlike_92 l hinj hZ C out N) 0 0 S85 H locs ls hf hw (lv_sub hl [2, 1, 0] rfl)
set_option maxRecDepth 100000 in
set_option maxHeartbeats 4000000 in
theorem w_X11_unlike_73 {p : Program} (l : Launch) {e : Env} {s : State} {m : MethodId} {args : Array Value} {below : List Frame} {meth : Method} {c : Code} {X : XT} (hinj : XInj X nM) (hZ : ZOK (Zm X)) (C : CX p s m args meth c cX11_unlike 3 RX11 (some .int) X nM (Zm X)) (out : Int × S2) (k45 : Int → S2 → Option (Int × S2)) (hk45 : ∀ (x1 : Int) (S : S2) (H : Heap) (locs : List Loc) (ls : Array Slot), k45 x1 S = some out → WH X shM nM s S H locs → lv_has ls 3 [(0, .ref (X.2.2 0)), (1, .int (iz x1))] → W p l e rmX11_unlike s m args below meth c H locs 0 0 (QI X shM nM s args below out) (F0 m 45 ls [])) : ∀ (N : Nat), ∀ (x1 : Int) (y0 : Int) (y1 : Int) (S : S2) (H : Heap) (locs : List Loc) (ls : Array Slot), f_X11_unlike_73 k45 N x1 y0 y1 S = some out → WH X shM nM s S H locs → lv_has ls 3 [(0, .ref (X.2.2 0)), (1, .int (iz x1))] → W p l e rmX11_unlike s m args below meth c H locs 0 0 (QI X shM nM s args below out) (F0 m 73 ls [.int (iz y0), .int (iz y1), .ref (X.2.2 26)]) := by
  intro N x1 y0 y1 S H locs ls hf hw hl
  unfold f_X11_unlike_73 at hf
  refine r_iast C hw shM_26 ltM_26 (Nat.le_of_ble_eq_true rfl) dX11_unlike_73 hf (fun S73 H locs hf hw => ?_)
  refine lv_iinc (v := iz (x1 + 1)) (lv' := [(1, .int (iz (x1 + 1))), (0, .ref (X.2.2 0))]) C.1.1 C.1.2.1 dX11_unlike_74 hl (k := 1) rfl (iz_add _ _) (by decide) rfl (fun ls hl => ?_)
  refine lv_goto (tgt := 45) C.1.1 C.1.2.1 dX11_unlike_77 (by decide) ?_
  exact hk45 (x1 + 1) S73 H locs ls hf hw (lv_sub hl [1, 0] rfl)
set_option maxRecDepth 100000 in
set_option maxHeartbeats 4000000 in
theorem w_X11_unlike_45 {p : Program} (l : Launch) {e : Env} {s : State} {m : MethodId} {args : Array Value} {below : List Frame} {meth : Method} {c : Code} {X : XT} (hinj : XInj X nM) (hZ : ZOK (Zm X)) (C : CX p s m args meth c cX11_unlike 3 RX11 (some .int) X nM (Zm X)) (out : Int × S2) (k80 : S2 → Option (Int × S2)) (hk80 : ∀ (S : S2) (H : Heap) (locs : List Loc) (ls : Array Slot), k80 S = some out → WH X shM nM s S H locs → lv_has ls 3 [(0, .ref (X.2.2 0))] → W p l e rmX11_unlike s m args below meth c H locs 0 0 (QI X shM nM s args below out) (F0 m 80 ls [])) : ∀ (N : Nat), ∀ (x1 : Int) (S : S2) (H : Heap) (locs : List Loc) (ls : Array Slot), f_X11_unlike_45 k80 N x1 S = some out → WH X shM nM s S H locs → lv_has ls 3 [(0, .ref (X.2.2 0)), (1, .int (iz x1))] → W p l e rmX11_unlike s m args below meth c H locs 0 0 (QI X shM nM s args below out) (F0 m 45 ls []) := by
  intro N
  induction N with
  | zero => intro x1 S H locs ls hf hw hl; cases hf
  | succ N ih =>
    intro x1 S H locs ls hf hw hl
    rw [f_X11_unlike_45.eq_2] at hf
    refine lv_iload_n C.1.1 C.1.2.1 dX11_unlike_45 rfl (lv_at hl 1 rfl) ?_
    refine r_bipush (v := 48) C dX11_unlike_46 (by decide) ?_
    refine r_icmp_ge C (tgt := 80) dX11_unlike_48 (by decide) hf (fun hf => ?_) (fun hf => ?_)
    · exact hk80 S H locs ls hf hw (lv_sub hl [0] rfl)
    · refine lv_aload_n C.1.1 C.1.2.1 dX11_unlike_51 rfl (lv_at hl 0 rfl) ?_
      refine r_getR (k := 49) C hw shM_0 ltM_0 cO11 rfl (by decide) tw5_193 rfl dX11_unlike_52 ?_
      refine lv_iload_n C.1.1 C.1.2.1 dX11_unlike_55 rfl (lv_at hl 1 rfl) ?_
      refine lv_iload_n C.1.1 C.1.2.1 dX11_unlike_56 rfl (lv_at hl 1 rfl) ?_
      refine lv_aload_n C.1.1 C.1.2.1 dX11_unlike_57 rfl (lv_at hl 0 rfl) ?_
      refine r_getI (k := 35) C hw shM_0 ltM_0 cO11 rfl (by decide) tw5_179 rfl dX11_unlike_58 hf (fun v58 hf => ?_)
      refine r_icmp_ge C (tgt := 72) dX11_unlike_61 (by decide) hf (fun hf => ?_) (fun hf => ?_)
      · refine r_iconst (v := 0) C dX11_unlike_72 ?_
        exact (w_X11_unlike_73 l hinj hZ C out (f_X11_unlike_45 k80 N) ih N) x1 0 x1 S H locs ls hf hw (lv_sub hl [0, 1] rfl)
      · refine lv_aload_n C.1.1 C.1.2.1 dX11_unlike_64 rfl (lv_at hl 0 rfl) ?_
        refine lv_iload_n C.1.1 C.1.2.1 dX11_unlike_65 rfl (lv_at hl 1 rfl) ?_
        refine r_callI (As := [.int (iz x1)]) (rest := [.int (iz x1), .ref (X.2.2 26)]) (rm := rmX11_life) C hw shM_0 ltM_0 cO11 tw7_174 tw7_176 tp_96 tw1_12 tw7_177 hd_X11_life rfl ⟨⟨rfl, rfl⟩, Nat.le_of_ble_eq_true rfl, Nat.le_of_ble_eq_true rfl⟩ hl.1 rfl (Nat.le_of_ble_eq_true rfl) dX11_unlike_66 hf (fun o ho => c_X11_life l X hinj hZ N S x1 o ho) (fun v66 S66 H locs hf hw => ?_)
        refine lv_goto (tgt := 73) C.1.1 C.1.2.1 dX11_unlike_69 (by decide) ?_
        exact (w_X11_unlike_73 l hinj hZ C out (f_X11_unlike_45 k80 N) ih N) x1 v66 x1 S66 H locs ls hf hw (lv_sub hl [0, 1] rfl)
set_option maxRecDepth 100000 in
set_option maxHeartbeats 4000000 in
theorem w_X11_unlike_39 {p : Program} (l : Launch) {e : Env} {s : State} {m : MethodId} {args : Array Value} {below : List Frame} {meth : Method} {c : Code} {X : XT} (hinj : XInj X nM) (hZ : ZOK (Zm X)) (C : CX p s m args meth c cX11_unlike 3 RX11 (some .int) X nM (Zm X)) (out : Int × S2) : ∀ (N : Nat), ∀ (S : S2) (H : Heap) (locs : List Loc) (ls : Array Slot), f_X11_unlike_39 N S = some out → WH X shM nM s S H locs → lv_has ls 3 [(0, .ref (X.2.2 0))] → W p l e rmX11_unlike s m args below meth c H locs 0 0 (QI X shM nM s args below out) (F0 m 39 ls []) := by
  intro N S H locs ls hf hw hl
  unfold f_X11_unlike_39 at hf
  refine lv_aload_n C.1.1 C.1.2.1 dX11_unlike_39 rfl (lv_at hl 0 rfl) ?_
  refine r_callV (As := []) (rest := []) (rm := rmX11_finds) C hw shM_0 ltM_0 cO11 tw7_1 tw7_3 tp_70 tw1_12 tw7_4 hd_X11_finds rfl ⟨⟨rfl, rfl⟩, Nat.le_of_ble_eq_true rfl, Nat.le_of_ble_eq_true rfl⟩ hl.1 rfl (Nat.le_of_ble_eq_true rfl) dX11_unlike_40 hf (fun o ho => c_X11_finds l X hinj hZ N S o ho) (fun S40 H locs hf hw => ?_)
  refine r_iconst (v := 0) C dX11_unlike_43 ?_
  refine lv_istore_n (lv' := [(1, .int (iz 0)), (0, .ref (X.2.2 0))]) C.1.1 C.1.2.1 dX11_unlike_44 rfl hl (by decide) rfl (fun ls hl => ?_)
  exact (w_X11_unlike_45 l hinj hZ C out (f_X11_unlike_80 N) (w_X11_unlike_80 l hinj hZ C out N) N) 0 S40 H locs ls hf hw (lv_sub hl [1, 0] rfl)
set_option maxRecDepth 100000 in
set_option maxHeartbeats 4000000 in
theorem w_X11_unlike_15 {p : Program} (l : Launch) {e : Env} {s : State} {m : MethodId} {args : Array Value} {below : List Frame} {meth : Method} {c : Code} {X : XT} (hinj : XInj X nM) (hZ : ZOK (Zm X)) (C : CX p s m args meth c cX11_unlike 3 RX11 (some .int) X nM (Zm X)) (out : Int × S2) (k39 : S2 → Option (Int × S2)) (hk39 : ∀ (S : S2) (H : Heap) (locs : List Loc) (ls : Array Slot), k39 S = some out → WH X shM nM s S H locs → lv_has ls 3 [(0, .ref (X.2.2 0))] → W p l e rmX11_unlike s m args below meth c H locs 0 0 (QI X shM nM s args below out) (F0 m 39 ls [])) : ∀ (N : Nat), ∀ (x1 : Int) (S : S2) (H : Heap) (locs : List Loc) (ls : Array Slot), f_X11_unlike_15 k39 N x1 S = some out → WH X shM nM s S H locs → lv_has ls 3 [(0, .ref (X.2.2 0)), (1, .int (iz x1))] → W p l e rmX11_unlike s m args below meth c H locs 0 0 (QI X shM nM s args below out) (F0 m 15 ls []) := by
  intro N
  induction N with
  | zero => intro x1 S H locs ls hf hw hl; cases hf
  | succ N ih =>
    intro x1 S H locs ls hf hw hl
    rw [f_X11_unlike_15.eq_2] at hf
    refine lv_iload_n C.1.1 C.1.2.1 dX11_unlike_15 rfl (lv_at hl 1 rfl) ?_
    refine r_bipush (v := 50) C dX11_unlike_16 (by decide) ?_
    refine r_icmp_ge C (tgt := 39) dX11_unlike_18 (by decide) hf (fun hf => ?_) (fun hf => ?_)
    · exact hk39 S H locs ls hf hw (lv_sub hl [0] rfl)
    · refine lv_aload_n C.1.1 C.1.2.1 dX11_unlike_21 rfl (lv_at hl 0 rfl) ?_
      refine r_getR (k := 22) C hw shM_0 ltM_0 cO11 rfl (by decide) tw5_166 rfl dX11_unlike_22 ?_
      refine lv_iload_n C.1.1 C.1.2.1 dX11_unlike_25 rfl (lv_at hl 1 rfl) ?_
      refine lv_aload_n C.1.1 C.1.2.1 dX11_unlike_26 rfl (lv_at hl 0 rfl) ?_
      refine r_getR (k := 46) C hw shM_0 ltM_0 cO11 rfl (by decide) tw5_190 rfl dX11_unlike_27 ?_
      refine lv_iload_n C.1.1 C.1.2.1 dX11_unlike_30 rfl (lv_at hl 1 rfl) ?_
      refine r_iald C hw shM_24 ltM_24 (Nat.le_of_ble_eq_true rfl) dX11_unlike_31 hf (fun v31 hf => ?_)
      refine r_iast C hw shM_8 ltM_8 (Nat.le_of_ble_eq_true rfl) dX11_unlike_32 hf (fun S32 H locs hf hw => ?_)
      refine lv_iinc (v := iz (x1 + 1)) (lv' := [(1, .int (iz (x1 + 1))), (0, .ref (X.2.2 0))]) C.1.1 C.1.2.1 dX11_unlike_33 hl (k := 1) rfl (iz_add _ _) (by decide) rfl (fun ls hl => ?_)
      refine lv_goto (tgt := 15) C.1.1 C.1.2.1 dX11_unlike_36 (by decide) ?_
      exact ih (x1 + 1) S32 H locs ls hf hw (lv_sub hl [1, 0] rfl)
set_option maxRecDepth 100000 in
set_option maxHeartbeats 4000000 in
theorem c_X11_unlike (l : Launch) (X : XT) (hinj : XInj X nM) (hZ : ZOK (Zm X)) (N : Nat) (S : S2) (out : Int × S2) (hf : f_X11_unlike N S = some out) : MI l X shM nM (Zm X) yX11_unlike cX11_unlike 3 (some .int) rmX11_unlike [.ref (X.2.2 0)] S out := by
  refine met_I (own := RX11) (by decide) rfl hinj hZ (Nat.le_of_ble_eq_true rfl) (fun p e s m args below meth c C ls H locs hw hl => ?_)
  unfold f_X11_unlike at hf
  have hl : lv_has ls 3 [(0, .ref (X.2.2 0))] := hl
  refine lv_aload_n C.1.1 C.1.2.1 dX11_unlike_0 rfl (lv_at hl 0 rfl) ?_
  refine r_getI (k := 47) C hw shM_0 ltM_0 cO11 rfl (by decide) tw5_191 rfl dX11_unlike_1 hf (fun v1 hf => ?_)
  refine r_if_ne C (tgt := 9) dX11_unlike_4 (by decide) hf (fun hf => ?_) (fun hf => ?_)
  · refine lv_aload_n C.1.1 C.1.2.1 dX11_unlike_9 rfl (lv_at hl 0 rfl) ?_
    refine r_callV (As := []) (rest := []) (rm := rmX11_putAside) C hw shM_0 ltM_0 cO11 tw8_14 tw8_16 tp_107 tw1_12 tw8_17 hd_X11_putAside rfl ⟨⟨rfl, rfl⟩, Nat.le_of_ble_eq_true rfl, Nat.le_of_ble_eq_true rfl⟩ hl.1 rfl (Nat.le_of_ble_eq_true rfl) dX11_unlike_10 hf (fun o ho => c_X11_putAside l X hinj hZ N S o ho) (fun S10 H locs hf hw => ?_)
    refine r_iconst (v := 0) C dX11_unlike_13 ?_
    refine lv_istore_n (lv' := [(1, .int (iz 0)), (0, .ref (X.2.2 0))]) C.1.1 C.1.2.1 dX11_unlike_14 rfl hl (by decide) rfl (fun ls hl => ?_)
    exact (w_X11_unlike_15 l hinj hZ C out (f_X11_unlike_39 N) (w_X11_unlike_39 l hinj hZ C out N) N) 0 S10 H locs ls hf hw (lv_sub hl [1, 0] rfl)
  · refine r_iconst (v := (-1)) C dX11_unlike_7 ?_
    exact r_retI C hw dX11_unlike_8 hf
def f_X11_shift_89 (N : Nat) (x1 : Int) (x2 : Int) (x3 : Int) (S : S2) : Option (Int × S2) := cI x1 0 (if x1 = 0 then rI x2 S else rI x3 S)
def f_X11_shift_83 (k30 : Int → Int → Int → Int → S2 → Option (Int × S2)) (N : Nat) (x1 : Int) (x2 : Int) (x3 : Int) (x4 : Int) (S : S2) : Option (Int × S2) := k30 x1 x2 x3 (x4 + 1) S
def f_X11_shift_59 (k30 : Int → Int → Int → Int → S2 → Option (Int × S2)) (N : Nat) (x1 : Int) (x2 : Int) (x3 : Int) (x4 : Int) (y0 : Int) (S : S2) : Option (Int × S2) := bV (f_X11_matches N S y0) fun S64 => gI S64 0 41 fun v68 => cI v68 x3 (if v68 ≤ x3 then (f_X11_shift_83 k30 N) x1 x2 x3 x4 S64 else gI S64 0 41 fun v76 => (f_X11_shift_83 k30 N) x1 y0 v76 x4 S64)
def f_X11_shift_30 (k89 : Int → Int → Int → S2 → Option (Int × S2)) : Nat → Int → Int → Int → Int → S2 → Option (Int × S2)
  | 0, _, _, _, _, _ => none
  | N + 1, x1, x2, x3, x4, S => cI x4 18 (if 18 < x4 then k89 x1 x2 x3 S else rmI x4 2 fun v40 => cI v40 1 (if v40 = 1 then dvI (-(x4 + 1)) 2 fun v51 => (f_X11_shift_59 (f_X11_shift_30 k89 N) N) x1 x2 x3 x4 v51 S else dvI x4 2 fun v58 => (f_X11_shift_59 (f_X11_shift_30 k89 N) N) x1 x2 x3 x4 v58 S))
def f_X11_shift (N : Nat) (S : S2) (a1 : Int) : Option (Int × S2) := gI S 0 29 fun v1 => cI v1 0 (if v1 = 0 then rI (-1000000) S else bI (f_X11_in N S a1 0 1) fun v10 S10 => cI v10 0 (if v10 = 0 then rI (-1000000) S10 else bV (f_X11_finds N S10) fun S20 => (f_X11_shift_30 (f_X11_shift_89 N) N) a1 0 (-1) 0 S20))
abbrev rmX11_shift : Room := { frames := 4, cells := 0, slots := 0, locals := 93 }
theorem hd_X11_shift : yX11_shift.cls ≠ "java/lang/invoke/MethodHandle" ∧ yX11_shift.cls ≠ "java/lang/invoke/VarHandle" ∧ (parseMethodDescriptor yX11_shift.desc).map (fun d => d.parameters.length) = some 1 := by decide +kernel
set_option maxRecDepth 100000 in
set_option maxHeartbeats 4000000 in
theorem w_X11_shift_89 {p : Program} (l : Launch) {e : Env} {s : State} {m : MethodId} {args : Array Value} {below : List Frame} {meth : Method} {c : Code} {X : XT} (hinj : XInj X nM) (hZ : ZOK (Zm X)) (C : CX p s m args meth c cX11_shift 6 RX11 (some .int) X nM (Zm X)) (out : Int × S2) : ∀ (N : Nat), ∀ (x1 : Int) (x2 : Int) (x3 : Int) (S : S2) (H : Heap) (locs : List Loc) (ls : Array Slot), f_X11_shift_89 N x1 x2 x3 S = some out → WH X shM nM s S H locs → lv_has ls 6 [(1, .int (iz x1)), (2, .int (iz x2)), (3, .int (iz x3))] → W p l e rmX11_shift s m args below meth c H locs 0 0 (QI X shM nM s args below out) (F0 m 89 ls []) := by
  intro N x1 x2 x3 S H locs ls hf hw hl
  unfold f_X11_shift_89 at hf
  refine lv_iload_n C.1.1 C.1.2.1 dX11_shift_89 rfl (lv_at hl 0 rfl) ?_
  refine r_if_ne C (tgt := 97) dX11_shift_90 (by decide) hf (fun hf => ?_) (fun hf => ?_)
  · refine lv_iload_n C.1.1 C.1.2.1 dX11_shift_97 rfl (lv_at hl 2 rfl) ?_
    exact r_retI C hw dX11_shift_98 hf
  · refine lv_iload_n C.1.1 C.1.2.1 dX11_shift_93 rfl (lv_at hl 1 rfl) ?_
    refine lv_goto (tgt := 98) C.1.1 C.1.2.1 dX11_shift_94 (by decide) ?_
    exact r_retI C hw dX11_shift_98 hf
set_option maxRecDepth 100000 in
set_option maxHeartbeats 4000000 in
theorem w_X11_shift_83 {p : Program} (l : Launch) {e : Env} {s : State} {m : MethodId} {args : Array Value} {below : List Frame} {meth : Method} {c : Code} {X : XT} (hinj : XInj X nM) (hZ : ZOK (Zm X)) (C : CX p s m args meth c cX11_shift 6 RX11 (some .int) X nM (Zm X)) (out : Int × S2) (k30 : Int → Int → Int → Int → S2 → Option (Int × S2)) (hk30 : ∀ (x1 : Int) (x2 : Int) (x3 : Int) (x4 : Int) (S : S2) (H : Heap) (locs : List Loc) (ls : Array Slot), k30 x1 x2 x3 x4 S = some out → WH X shM nM s S H locs → lv_has ls 6 [(0, .ref (X.2.2 0)), (1, .int (iz x1)), (2, .int (iz x2)), (3, .int (iz x3)), (4, .int (iz x4))] → W p l e rmX11_shift s m args below meth c H locs 0 0 (QI X shM nM s args below out) (F0 m 30 ls [])) : ∀ (N : Nat), ∀ (x1 : Int) (x2 : Int) (x3 : Int) (x4 : Int) (S : S2) (H : Heap) (locs : List Loc) (ls : Array Slot), f_X11_shift_83 k30 N x1 x2 x3 x4 S = some out → WH X shM nM s S H locs → lv_has ls 6 [(0, .ref (X.2.2 0)), (1, .int (iz x1)), (2, .int (iz x2)), (3, .int (iz x3)), (4, .int (iz x4))] → W p l e rmX11_shift s m args below meth c H locs 0 0 (QI X shM nM s args below out) (F0 m 83 ls []) := by
  intro N x1 x2 x3 x4 S H locs ls hf hw hl
  unfold f_X11_shift_83 at hf
  refine lv_iinc (v := iz (x4 + 1)) (lv' := [(4, .int (iz (x4 + 1))), (0, .ref (X.2.2 0)), (1, .int (iz x1)), (2, .int (iz x2)), (3, .int (iz x3))]) C.1.1 C.1.2.1 dX11_shift_83 hl (k := 4) rfl (iz_add _ _) (by decide) rfl (fun ls hl => ?_)
  refine lv_goto (tgt := 30) C.1.1 C.1.2.1 dX11_shift_86 (by decide) ?_
  exact hk30 x1 x2 x3 (x4 + 1) S H locs ls hf hw (lv_sub hl [1, 2, 3, 4, 0] rfl)
set_option maxRecDepth 100000 in
set_option maxHeartbeats 4000000 in
theorem w_X11_shift_59 {p : Program} (l : Launch) {e : Env} {s : State} {m : MethodId} {args : Array Value} {below : List Frame} {meth : Method} {c : Code} {X : XT} (hinj : XInj X nM) (hZ : ZOK (Zm X)) (C : CX p s m args meth c cX11_shift 6 RX11 (some .int) X nM (Zm X)) (out : Int × S2) (k30 : Int → Int → Int → Int → S2 → Option (Int × S2)) (hk30 : ∀ (x1 : Int) (x2 : Int) (x3 : Int) (x4 : Int) (S : S2) (H : Heap) (locs : List Loc) (ls : Array Slot), k30 x1 x2 x3 x4 S = some out → WH X shM nM s S H locs → lv_has ls 6 [(0, .ref (X.2.2 0)), (1, .int (iz x1)), (2, .int (iz x2)), (3, .int (iz x3)), (4, .int (iz x4))] → W p l e rmX11_shift s m args below meth c H locs 0 0 (QI X shM nM s args below out) (F0 m 30 ls [])) : ∀ (N : Nat), ∀ (x1 : Int) (x2 : Int) (x3 : Int) (x4 : Int) (y0 : Int) (S : S2) (H : Heap) (locs : List Loc) (ls : Array Slot), f_X11_shift_59 k30 N x1 x2 x3 x4 y0 S = some out → WH X shM nM s S H locs → lv_has ls 6 [(0, .ref (X.2.2 0)), (1, .int (iz x1)), (2, .int (iz x2)), (3, .int (iz x3)), (4, .int (iz x4))] → W p l e rmX11_shift s m args below meth c H locs 0 0 (QI X shM nM s args below out) (F0 m 59 ls [.int (iz y0)]) := by
  intro N x1 x2 x3 x4 y0 S H locs ls hf hw hl
  unfold f_X11_shift_59 at hf
  refine lv_istore (lv' := [(5, .int (iz y0)), (0, .ref (X.2.2 0)), (1, .int (iz x1)), (2, .int (iz x2)), (3, .int (iz x3)), (4, .int (iz x4))]) C.1.1 C.1.2.1 dX11_shift_59 hl (by decide) rfl (fun ls hl => ?_)
  refine lv_aload_n C.1.1 C.1.2.1 dX11_shift_61 rfl (lv_at hl 1 rfl) ?_
  refine lv_iload C.1.1 C.1.2.1 dX11_shift_62 (lv_at hl 0 rfl) ?_
  refine r_callV (As := [.int (iz y0)]) (rest := []) (rm := rmX11_matches) C hw shM_0 ltM_0 cO11 tw7_37 tw7_39 tp_79 tw1_12 tw7_40 hd_X11_matches rfl ⟨⟨rfl, rfl⟩, Nat.le_of_ble_eq_true rfl, Nat.le_of_ble_eq_true rfl⟩ hl.1 rfl (Nat.le_of_ble_eq_true rfl) dX11_shift_64 hf (fun o ho => c_X11_matches l X hinj hZ N S y0 o ho) (fun S64 H locs hf hw => ?_)
  refine lv_aload_n C.1.1 C.1.2.1 dX11_shift_67 rfl (lv_at hl 1 rfl) ?_
  refine r_getI (k := 41) C hw shM_0 ltM_0 cO11 rfl (by decide) tw5_185 rfl dX11_shift_68 hf (fun v68 hf => ?_)
  refine lv_iload_n C.1.1 C.1.2.1 dX11_shift_71 rfl (lv_at hl 4 rfl) ?_
  refine r_icmp_le C (tgt := 83) dX11_shift_72 (by decide) hf (fun hf => ?_) (fun hf => ?_)
  · exact (w_X11_shift_83 l hinj hZ C out k30 hk30 N) x1 x2 x3 x4 S64 H locs ls hf hw (lv_sub hl [1, 2, 3, 4, 5] rfl)
  · refine lv_aload_n C.1.1 C.1.2.1 dX11_shift_75 rfl (lv_at hl 1 rfl) ?_
    refine r_getI (k := 41) C hw shM_0 ltM_0 cO11 rfl (by decide) tw5_185 rfl dX11_shift_76 hf (fun v76 hf => ?_)
    refine lv_istore_n (lv' := [(3, .int (iz v76)), (5, .int (iz y0)), (0, .ref (X.2.2 0)), (1, .int (iz x1)), (2, .int (iz x2)), (4, .int (iz x4))]) C.1.1 C.1.2.1 dX11_shift_79 rfl hl (by decide) rfl (fun ls hl => ?_)
    refine lv_iload C.1.1 C.1.2.1 dX11_shift_80 (lv_at hl 1 rfl) ?_
    refine lv_istore_n (lv' := [(2, .int (iz y0)), (3, .int (iz v76)), (5, .int (iz y0)), (0, .ref (X.2.2 0)), (1, .int (iz x1)), (4, .int (iz x4))]) C.1.1 C.1.2.1 dX11_shift_82 rfl hl (by decide) rfl (fun ls hl => ?_)
    exact (w_X11_shift_83 l hinj hZ C out k30 hk30 N) x1 y0 v76 x4 S64 H locs ls hf hw (lv_sub hl [3, 4, 0, 1, 5] rfl)
set_option maxRecDepth 100000 in
set_option maxHeartbeats 4000000 in
theorem w_X11_shift_30 {p : Program} (l : Launch) {e : Env} {s : State} {m : MethodId} {args : Array Value} {below : List Frame} {meth : Method} {c : Code} {X : XT} (hinj : XInj X nM) (hZ : ZOK (Zm X)) (C : CX p s m args meth c cX11_shift 6 RX11 (some .int) X nM (Zm X)) (out : Int × S2) (k89 : Int → Int → Int → S2 → Option (Int × S2)) (hk89 : ∀ (x1 : Int) (x2 : Int) (x3 : Int) (S : S2) (H : Heap) (locs : List Loc) (ls : Array Slot), k89 x1 x2 x3 S = some out → WH X shM nM s S H locs → lv_has ls 6 [(1, .int (iz x1)), (2, .int (iz x2)), (3, .int (iz x3))] → W p l e rmX11_shift s m args below meth c H locs 0 0 (QI X shM nM s args below out) (F0 m 89 ls [])) : ∀ (N : Nat), ∀ (x1 : Int) (x2 : Int) (x3 : Int) (x4 : Int) (S : S2) (H : Heap) (locs : List Loc) (ls : Array Slot), f_X11_shift_30 k89 N x1 x2 x3 x4 S = some out → WH X shM nM s S H locs → lv_has ls 6 [(0, .ref (X.2.2 0)), (1, .int (iz x1)), (2, .int (iz x2)), (3, .int (iz x3)), (4, .int (iz x4))] → W p l e rmX11_shift s m args below meth c H locs 0 0 (QI X shM nM s args below out) (F0 m 30 ls []) := by
  intro N
  induction N with
  | zero => intro x1 x2 x3 x4 S H locs ls hf hw hl; cases hf
  | succ N ih =>
    intro x1 x2 x3 x4 S H locs ls hf hw hl
    rw [f_X11_shift_30.eq_2] at hf
    refine lv_iload C.1.1 C.1.2.1 dX11_shift_30 (lv_at hl 4 rfl) ?_
    refine r_bipush (v := 18) C dX11_shift_32 (by decide) ?_
    refine r_icmp_gt C (tgt := 89) dX11_shift_34 (by decide) hf (fun hf => ?_) (fun hf => ?_)
    · exact hk89 x1 x2 x3 S H locs ls hf hw (lv_sub hl [1, 2, 3] rfl)
    · refine lv_iload C.1.1 C.1.2.1 dX11_shift_37 (lv_at hl 4 rfl) ?_
      refine r_iconst (v := 2) C dX11_shift_39 ?_
      refine r_irem C dX11_shift_40 hf (fun v40 hf => ?_)
      refine r_iconst (v := 1) C dX11_shift_41 ?_
      refine r_icmp_ne C (tgt := 55) dX11_shift_42 (by decide) hf (fun hf => ?_) (fun hf => ?_)
      · refine lv_iload C.1.1 C.1.2.1 dX11_shift_55 (lv_at hl 4 rfl) ?_
        refine r_iconst (v := 2) C dX11_shift_57 ?_
        refine r_idiv C dX11_shift_58 hf (fun v58 hf => ?_)
        exact (w_X11_shift_59 l hinj hZ C out (f_X11_shift_30 k89 N) ih N) x1 x2 x3 x4 v58 S H locs ls hf hw (lv_sub hl [0, 1, 2, 3, 4] rfl)
      · refine lv_iload C.1.1 C.1.2.1 dX11_shift_45 (lv_at hl 4 rfl) ?_
        refine r_iconst (v := 1) C dX11_shift_47 ?_
        refine r_iadd C dX11_shift_48 ?_
        refine r_ineg C dX11_shift_49 ?_
        refine r_iconst (v := 2) C dX11_shift_50 ?_
        refine r_idiv C dX11_shift_51 hf (fun v51 hf => ?_)
        refine lv_goto (tgt := 59) C.1.1 C.1.2.1 dX11_shift_52 (by decide) ?_
        exact (w_X11_shift_59 l hinj hZ C out (f_X11_shift_30 k89 N) ih N) x1 x2 x3 x4 v51 S H locs ls hf hw (lv_sub hl [0, 1, 2, 3, 4] rfl)
set_option maxRecDepth 100000 in
set_option maxHeartbeats 4000000 in
theorem c_X11_shift (l : Launch) (X : XT) (hinj : XInj X nM) (hZ : ZOK (Zm X)) (N : Nat) (S : S2) (a1 : Int) (out : Int × S2) (hf : f_X11_shift N S a1 = some out) : MI l X shM nM (Zm X) yX11_shift cX11_shift 6 (some .int) rmX11_shift [.ref (X.2.2 0), .int (iz a1)] S out := by
  refine met_I (own := RX11) (by decide) rfl hinj hZ (Nat.le_of_ble_eq_true rfl) (fun p e s m args below meth c C ls H locs hw hl => ?_)
  unfold f_X11_shift at hf
  have hl : lv_has ls 6 [(0, .ref (X.2.2 0)), (1, .int (iz a1))] := hl
  refine lv_aload_n C.1.1 C.1.2.1 dX11_shift_0 rfl (lv_at hl 0 rfl) ?_
  refine r_getI (k := 29) C hw shM_0 ltM_0 cO11 rfl (by decide) tw5_173 rfl dX11_shift_1 hf (fun v1 hf => ?_)
  refine r_if_eq C (tgt := 16) dX11_shift_4 (by decide) hf (fun hf => ?_) (fun hf => ?_)
  · refine r_ldc (v := (-1000000)) C tw6_180 (by decide) dX11_shift_16 ?_
    exact r_retI C hw dX11_shift_18 hf
  · refine lv_iload_n C.1.1 C.1.2.1 dX11_shift_7 rfl (lv_at hl 1 rfl) ?_
    refine r_iconst (v := 0) C dX11_shift_8 ?_
    refine r_iconst (v := 1) C dX11_shift_9 ?_
    refine r_scallI (As := [.int (iz a1), .int (iz 0), .int (iz 1)]) (rest := []) (rm := rmX11_in) C hw tw6_77 tw6_78 tw1_12 tw6_79 hd_X11_in rfl ⟨⟨rfl, rfl⟩, Nat.le_of_ble_eq_true rfl, Nat.le_of_ble_eq_true rfl⟩ hl.1 rfl (Nat.le_of_ble_eq_true rfl) dX11_shift_10 hf (fun o ho => c_X11_in l X hinj hZ N S a1 0 1 o ho) (fun v10 S10 H locs hf hw => ?_)
    refine r_if_ne C (tgt := 19) dX11_shift_13 (by decide) hf (fun hf => ?_) (fun hf => ?_)
    · refine lv_aload_n C.1.1 C.1.2.1 dX11_shift_19 rfl (lv_at hl 0 rfl) ?_
      refine r_callV (As := []) (rest := []) (rm := rmX11_finds) C hw shM_0 ltM_0 cO11 tw7_1 tw7_3 tp_70 tw1_12 tw7_4 hd_X11_finds rfl ⟨⟨rfl, rfl⟩, Nat.le_of_ble_eq_true rfl, Nat.le_of_ble_eq_true rfl⟩ hl.1 rfl (Nat.le_of_ble_eq_true rfl) dX11_shift_20 hf (fun o ho => c_X11_finds l X hinj hZ N S10 o ho) (fun S20 H locs hf hw => ?_)
      refine r_iconst (v := 0) C dX11_shift_23 ?_
      refine lv_istore_n (lv' := [(2, .int (iz 0)), (0, .ref (X.2.2 0)), (1, .int (iz a1))]) C.1.1 C.1.2.1 dX11_shift_24 rfl hl (by decide) rfl (fun ls hl => ?_)
      refine r_iconst (v := (-1)) C dX11_shift_25 ?_
      refine lv_istore_n (lv' := [(3, .int (iz (-1))), (2, .int (iz 0)), (0, .ref (X.2.2 0)), (1, .int (iz a1))]) C.1.1 C.1.2.1 dX11_shift_26 rfl hl (by decide) rfl (fun ls hl => ?_)
      refine r_iconst (v := 0) C dX11_shift_27 ?_
      refine lv_istore (lv' := [(4, .int (iz 0)), (3, .int (iz (-1))), (2, .int (iz 0)), (0, .ref (X.2.2 0)), (1, .int (iz a1))]) C.1.1 C.1.2.1 dX11_shift_28 hl (by decide) rfl (fun ls hl => ?_)
      exact (w_X11_shift_30 l hinj hZ C out (f_X11_shift_89 N) (w_X11_shift_89 l hinj hZ C out N) N) a1 0 (-1) 0 S20 H locs ls hf hw (lv_sub hl [3, 4, 2, 1, 0] rfl)
    · refine r_ldc (v := (-1000000)) C tw6_180 (by decide) dX11_shift_16 ?_
      exact r_retI C hw dX11_shift_18 hf
def f_X11_matched_34 (k8 : Int → Int → S2 → Option (Int × S2)) (N : Nat) (x2 : Int) (y0 : Int) (y1 : Int) (S : S2) : Option (Int × S2) := k8 (bz (iz y1 ||| iz y0)) (x2 + 1) S
def f_X11_matched_8 : Nat → Int → Int → S2 → Option (Int × S2)
  | 0, _, _, _ => none
  | N + 1, x1, x2, S => gI S 0 27 fun v10 => cI x2 v10 (if v10 ≤ x2 then rI x1 S else aI S 21 8 x2 fun v22 => cI v22 (-1) (if v22 = (-1) then (f_X11_matched_34 (f_X11_matched_8 N) N) x2 0 x1 S else (f_X11_matched_34 (f_X11_matched_8 N) N) x2 (bz (iz 1 <<< (iz x2 &&& 31))) x1 S))
def f_X11_matched (N : Nat) (S : S2) : Option (Int × S2) := bV (f_X11_finds N S) fun S1 => (f_X11_matched_8 N) 0 0 S1
abbrev rmX11_matched : Room := { frames := 4, cells := 0, slots := 0, locals := 93 }
theorem hd_X11_matched : yX11_matched.cls ≠ "java/lang/invoke/MethodHandle" ∧ yX11_matched.cls ≠ "java/lang/invoke/VarHandle" ∧ (parseMethodDescriptor yX11_matched.desc).map (fun d => d.parameters.length) = some 0 := by decide +kernel
set_option maxRecDepth 100000 in
set_option maxHeartbeats 4000000 in
theorem w_X11_matched_34 {p : Program} (l : Launch) {e : Env} {s : State} {m : MethodId} {args : Array Value} {below : List Frame} {meth : Method} {c : Code} {X : XT} (hinj : XInj X nM) (hZ : ZOK (Zm X)) (C : CX p s m args meth c cX11_matched 3 RX11 (some .int) X nM (Zm X)) (out : Int × S2) (k8 : Int → Int → S2 → Option (Int × S2)) (hk8 : ∀ (x1 : Int) (x2 : Int) (S : S2) (H : Heap) (locs : List Loc) (ls : Array Slot), k8 x1 x2 S = some out → WH X shM nM s S H locs → lv_has ls 3 [(0, .ref (X.2.2 0)), (1, .int (iz x1)), (2, .int (iz x2))] → W p l e rmX11_matched s m args below meth c H locs 0 0 (QI X shM nM s args below out) (F0 m 8 ls [])) : ∀ (N : Nat), ∀ (x2 : Int) (y0 : Int) (y1 : Int) (S : S2) (H : Heap) (locs : List Loc) (ls : Array Slot), f_X11_matched_34 k8 N x2 y0 y1 S = some out → WH X shM nM s S H locs → lv_has ls 3 [(0, .ref (X.2.2 0)), (2, .int (iz x2))] → W p l e rmX11_matched s m args below meth c H locs 0 0 (QI X shM nM s args below out) (F0 m 34 ls [.int (iz y0), .int (iz y1)]) := by
  intro N x2 y0 y1 S H locs ls hf hw hl
  unfold f_X11_matched_34 at hf
  refine r_ior C dX11_matched_34 ?_
  refine lv_istore_n (lv' := [(1, .int (iz (bz (iz y1 ||| iz y0)))), (0, .ref (X.2.2 0)), (2, .int (iz x2))]) C.1.1 C.1.2.1 dX11_matched_35 rfl hl (by decide) rfl (fun ls hl => ?_)
  refine lv_iinc (v := iz (x2 + 1)) (lv' := [(2, .int (iz (x2 + 1))), (1, .int (iz (bz (iz y1 ||| iz y0)))), (0, .ref (X.2.2 0))]) C.1.1 C.1.2.1 dX11_matched_36 hl (k := 2) rfl (iz_add _ _) (by decide) rfl (fun ls hl => ?_)
  refine lv_goto (tgt := 8) C.1.1 C.1.2.1 dX11_matched_39 (by decide) ?_
  exact hk8 (bz (iz y1 ||| iz y0)) (x2 + 1) S H locs ls hf hw (lv_sub hl [2, 1, 0] rfl)
set_option maxRecDepth 100000 in
set_option maxHeartbeats 4000000 in
theorem w_X11_matched_8 {p : Program} (l : Launch) {e : Env} {s : State} {m : MethodId} {args : Array Value} {below : List Frame} {meth : Method} {c : Code} {X : XT} (hinj : XInj X nM) (hZ : ZOK (Zm X)) (C : CX p s m args meth c cX11_matched 3 RX11 (some .int) X nM (Zm X)) (out : Int × S2) : ∀ (N : Nat), ∀ (x1 : Int) (x2 : Int) (S : S2) (H : Heap) (locs : List Loc) (ls : Array Slot), f_X11_matched_8 N x1 x2 S = some out → WH X shM nM s S H locs → lv_has ls 3 [(0, .ref (X.2.2 0)), (1, .int (iz x1)), (2, .int (iz x2))] → W p l e rmX11_matched s m args below meth c H locs 0 0 (QI X shM nM s args below out) (F0 m 8 ls []) := by
  intro N
  induction N with
  | zero => intro x1 x2 S H locs ls hf hw hl; cases hf
  | succ N ih =>
    intro x1 x2 S H locs ls hf hw hl
    rw [f_X11_matched_8.eq_2] at hf
    refine lv_iload_n C.1.1 C.1.2.1 dX11_matched_8 rfl (lv_at hl 2 rfl) ?_
    refine lv_aload_n C.1.1 C.1.2.1 dX11_matched_9 rfl (lv_at hl 0 rfl) ?_
    refine r_getI (k := 27) C hw shM_0 ltM_0 cO11 rfl (by decide) tw5_171 rfl dX11_matched_10 hf (fun v10 hf => ?_)
    refine r_icmp_ge C (tgt := 42) dX11_matched_13 (by decide) hf (fun hf => ?_) (fun hf => ?_)
    · refine lv_iload_n C.1.1 C.1.2.1 dX11_matched_42 rfl (lv_at hl 1 rfl) ?_
      exact r_retI C hw dX11_matched_43 hf
    · refine lv_iload_n C.1.1 C.1.2.1 dX11_matched_16 rfl (lv_at hl 1 rfl) ?_
      refine lv_aload_n C.1.1 C.1.2.1 dX11_matched_17 rfl (lv_at hl 0 rfl) ?_
      refine r_getR (k := 40) C hw shM_0 ltM_0 cO11 rfl (by decide) tw5_184 rfl dX11_matched_18 ?_
      refine lv_iload_n C.1.1 C.1.2.1 dX11_matched_21 rfl (lv_at hl 2 rfl) ?_
      refine r_iald C hw shM_21 ltM_21 (Nat.le_of_ble_eq_true rfl) dX11_matched_22 hf (fun v22 hf => ?_)
      refine r_iconst (v := (-1)) C dX11_matched_23 ?_
      refine r_icmp_eq C (tgt := 33) dX11_matched_24 (by decide) hf (fun hf => ?_) (fun hf => ?_)
      · refine r_iconst (v := 0) C dX11_matched_33 ?_
        exact (w_X11_matched_34 l hinj hZ C out (f_X11_matched_8 N) ih N) x2 0 x1 S H locs ls hf hw (lv_sub hl [0, 2] rfl)
      · refine r_iconst (v := 1) C dX11_matched_27 ?_
        refine lv_iload_n C.1.1 C.1.2.1 dX11_matched_28 rfl (lv_at hl 2 rfl) ?_
        refine r_ishl C dX11_matched_29 ?_
        refine lv_goto (tgt := 34) C.1.1 C.1.2.1 dX11_matched_30 (by decide) ?_
        exact (w_X11_matched_34 l hinj hZ C out (f_X11_matched_8 N) ih N) x2 (bz (iz 1 <<< (iz x2 &&& 31))) x1 S H locs ls hf hw (lv_sub hl [0, 2] rfl)
set_option maxRecDepth 100000 in
set_option maxHeartbeats 4000000 in
theorem c_X11_matched (l : Launch) (X : XT) (hinj : XInj X nM) (hZ : ZOK (Zm X)) (N : Nat) (S : S2) (out : Int × S2) (hf : f_X11_matched N S = some out) : MI l X shM nM (Zm X) yX11_matched cX11_matched 3 (some .int) rmX11_matched [.ref (X.2.2 0)] S out := by
  refine met_I (own := RX11) (by decide) rfl hinj hZ (Nat.le_of_ble_eq_true rfl) (fun p e s m args below meth c C ls H locs hw hl => ?_)
  unfold f_X11_matched at hf
  have hl : lv_has ls 3 [(0, .ref (X.2.2 0))] := hl
  refine lv_aload_n C.1.1 C.1.2.1 dX11_matched_0 rfl (lv_at hl 0 rfl) ?_
  refine r_callV (As := []) (rest := []) (rm := rmX11_finds) C hw shM_0 ltM_0 cO11 tw7_1 tw7_3 tp_70 tw1_12 tw7_4 hd_X11_finds rfl ⟨⟨rfl, rfl⟩, Nat.le_of_ble_eq_true rfl, Nat.le_of_ble_eq_true rfl⟩ hl.1 rfl (Nat.le_of_ble_eq_true rfl) dX11_matched_1 hf (fun o ho => c_X11_finds l X hinj hZ N S o ho) (fun S1 H locs hf hw => ?_)
  refine r_iconst (v := 0) C dX11_matched_4 ?_
  refine lv_istore_n (lv' := [(1, .int (iz 0)), (0, .ref (X.2.2 0))]) C.1.1 C.1.2.1 dX11_matched_5 rfl hl (by decide) rfl (fun ls hl => ?_)
  refine r_iconst (v := 0) C dX11_matched_6 ?_
  refine lv_istore_n (lv' := [(2, .int (iz 0)), (1, .int (iz 0)), (0, .ref (X.2.2 0))]) C.1.1 C.1.2.1 dX11_matched_7 rfl hl (by decide) rfl (fun ls hl => ?_)
  exact (w_X11_matched_8 l hinj hZ C out N) 0 0 S1 H locs ls hf hw (lv_sub hl [2, 1, 0] rfl)
def f_X11_missed (N : Nat) (S : S2) : Option (Int × S2) := gI S 0 29 fun v1 => cI v1 0 (if v1 = 0 then rI (-1) S else gI S 0 27 fun v9 => bI (f_X11_matched N S) fun v16 S16 => rI (bz (iz ((bz (iz 1 <<< (iz v9 &&& 31))) - 1) &&& iz (bz (iz v16 ^^^ iz (-1))))) S16)
abbrev rmX11_missed : Room := { frames := 5, cells := 0, slots := 0, locals := 115 }
theorem hd_X11_missed : yX11_missed.cls ≠ "java/lang/invoke/MethodHandle" ∧ yX11_missed.cls ≠ "java/lang/invoke/VarHandle" ∧ (parseMethodDescriptor yX11_missed.desc).map (fun d => d.parameters.length) = some 0 := by decide +kernel
set_option maxRecDepth 100000 in
set_option maxHeartbeats 4000000 in
theorem c_X11_missed (l : Launch) (X : XT) (hinj : XInj X nM) (hZ : ZOK (Zm X)) (N : Nat) (S : S2) (out : Int × S2) (hf : f_X11_missed N S = some out) : MI l X shM nM (Zm X) yX11_missed cX11_missed 1 (some .int) rmX11_missed [.ref (X.2.2 0)] S out := by
  refine met_I (own := RX11) (by decide) rfl hinj hZ (Nat.le_of_ble_eq_true rfl) (fun p e s m args below meth c C ls H locs hw hl => ?_)
  unfold f_X11_missed at hf
  have hl : lv_has ls 1 [(0, .ref (X.2.2 0))] := hl
  refine lv_aload_n C.1.1 C.1.2.1 dX11_missed_0 rfl (lv_at hl 0 rfl) ?_
  refine r_getI (k := 29) C hw shM_0 ltM_0 cO11 rfl (by decide) tw5_173 rfl dX11_missed_1 hf (fun v1 hf => ?_)
  refine r_if_eq C (tgt := 25) dX11_missed_4 (by decide) hf (fun hf => ?_) (fun hf => ?_)
  · refine r_iconst (v := (-1)) C dX11_missed_25 ?_
    exact r_retI C hw dX11_missed_26 hf
  · refine r_iconst (v := 1) C dX11_missed_7 ?_
    refine lv_aload_n C.1.1 C.1.2.1 dX11_missed_8 rfl (lv_at hl 0 rfl) ?_
    refine r_getI (k := 27) C hw shM_0 ltM_0 cO11 rfl (by decide) tw5_171 rfl dX11_missed_9 hf (fun v9 hf => ?_)
    refine r_ishl C dX11_missed_12 ?_
    refine r_iconst (v := 1) C dX11_missed_13 ?_
    refine r_isub C dX11_missed_14 ?_
    refine lv_aload_n C.1.1 C.1.2.1 dX11_missed_15 rfl (lv_at hl 0 rfl) ?_
    refine r_callI (As := []) (rest := [.int (iz ((bz (iz 1 <<< (iz v9 &&& 31))) - 1))]) (rm := rmX11_matched) C hw shM_0 ltM_0 cO11 tw8_30 tw8_32 tp_109 tw1_12 tw8_33 hd_X11_matched rfl ⟨⟨rfl, rfl⟩, Nat.le_of_ble_eq_true rfl, Nat.le_of_ble_eq_true rfl⟩ hl.1 rfl (Nat.le_of_ble_eq_true rfl) dX11_missed_16 hf (fun o ho => c_X11_matched l X hinj hZ N S o ho) (fun v16 S16 H locs hf hw => ?_)
    refine r_iconst (v := (-1)) C dX11_missed_19 ?_
    refine r_ixor C dX11_missed_20 ?_
    refine r_iand C dX11_missed_21 ?_
    refine lv_goto (tgt := 26) C.1.1 C.1.2.1 dX11_missed_22 (by decide) ?_
    exact r_retI C hw dX11_missed_26 hf
def f_X11_would_63 (N : Nat) (x1 : Int) (x4 : Int) (y0 : Int) (S : S2) : Option (Int × S2) := sI S 8 231 x1 x4 fun S72 => rI y0 S72
def f_X11_would (N : Nat) (S : S2) (a1 : Int) (a2 : Int) (a3 : Int) : Option (Int × S2) := bI (f_X11_whyNot N S 7 a1 a2) fun v5 S5 => cI v5 (-1) (if v5 = (-1) then bI (f_X11_in N S5 a3 0 2) fun v15 S15 => cI v15 0 (if v15 = 0 then rI (-1) S15 else bI (f_X11_sets N S15 a1 a2) fun v26 S26 => bV (f_X11_finds N S26) fun S32 => cI a3 0 (if a3 = 0 then gI S32 0 38 fun v40 => (f_X11_would_63 N) a1 v26 v40 S32 else cI a3 1 (if a3 = 1 then bI (f_X11_placeOf N S32 0) fun v53 S53 => (f_X11_would_63 N) a1 v26 v53 S53 else gI S32 0 35 fun v60 => (f_X11_would_63 N) a1 v26 v60 S32))) else rI (-1) S5)
abbrev rmX11_would : Room := { frames := 4, cells := 0, slots := 0, locals := 93 }
theorem hd_X11_would : yX11_would.cls ≠ "java/lang/invoke/MethodHandle" ∧ yX11_would.cls ≠ "java/lang/invoke/VarHandle" ∧ (parseMethodDescriptor yX11_would.desc).map (fun d => d.parameters.length) = some 3 := by decide +kernel
set_option maxRecDepth 100000 in
set_option maxHeartbeats 4000000 in
theorem w_X11_would_63 {p : Program} (l : Launch) {e : Env} {s : State} {m : MethodId} {args : Array Value} {below : List Frame} {meth : Method} {c : Code} {X : XT} (hinj : XInj X nM) (hZ : ZOK (Zm X)) (C : CX p s m args meth c cX11_would 6 RX11 (some .int) X nM (Zm X)) (out : Int × S2) : ∀ (N : Nat), ∀ (x1 : Int) (x4 : Int) (y0 : Int) (S : S2) (H : Heap) (locs : List Loc) (ls : Array Slot), f_X11_would_63 N x1 x4 y0 S = some out → WH X shM nM s S H locs → lv_has ls 6 [(0, .ref (X.2.2 0)), (1, .int (iz x1)), (4, .int (iz x4))] → W p l e rmX11_would s m args below meth c H locs 0 0 (QI X shM nM s args below out) (F0 m 63 ls [.int (iz y0)]) := by
  intro N x1 x4 y0 S H locs ls hf hw hl
  unfold f_X11_would_63 at hf
  refine lv_istore (lv' := [(5, .int (iz y0)), (0, .ref (X.2.2 0)), (1, .int (iz x1)), (4, .int (iz x4))]) C.1.1 C.1.2.1 dX11_would_63 hl (by decide) rfl (fun ls hl => ?_)
  refine lv_aload_n C.1.1 C.1.2.1 dX11_would_65 rfl (lv_at hl 1 rfl) ?_
  refine r_getR (k := 22) C hw shM_0 ltM_0 cO11 rfl (by decide) tw5_166 rfl dX11_would_66 ?_
  refine lv_iload_n C.1.1 C.1.2.1 dX11_would_69 rfl (lv_at hl 2 rfl) ?_
  refine lv_iload C.1.1 C.1.2.1 dX11_would_70 (lv_at hl 3 rfl) ?_
  refine r_iast C hw shM_8 ltM_8 (Nat.le_of_ble_eq_true rfl) dX11_would_72 hf (fun S72 H locs hf hw => ?_)
  refine lv_iload C.1.1 C.1.2.1 dX11_would_73 (lv_at hl 0 rfl) ?_
  exact r_retI C hw dX11_would_75 hf
set_option maxRecDepth 100000 in
set_option maxHeartbeats 4000000 in
theorem c_X11_would (l : Launch) (X : XT) (hinj : XInj X nM) (hZ : ZOK (Zm X)) (N : Nat) (S : S2) (a1 : Int) (a2 : Int) (a3 : Int) (out : Int × S2) (hf : f_X11_would N S a1 a2 a3 = some out) : MI l X shM nM (Zm X) yX11_would cX11_would 6 (some .int) rmX11_would [.ref (X.2.2 0), .int (iz a1), .int (iz a2), .int (iz a3)] S out := by
  refine met_I (own := RX11) (by decide) rfl hinj hZ (Nat.le_of_ble_eq_true rfl) (fun p e s m args below meth c C ls H locs hw hl => ?_)
  unfold f_X11_would at hf
  have hl : lv_has ls 6 [(0, .ref (X.2.2 0)), (1, .int (iz a1)), (2, .int (iz a2)), (3, .int (iz a3))] := hl
  refine lv_aload_n C.1.1 C.1.2.1 dX11_would_0 rfl (lv_at hl 0 rfl) ?_
  refine r_bipush (v := 7) C dX11_would_1 (by decide) ?_
  refine lv_iload_n C.1.1 C.1.2.1 dX11_would_3 rfl (lv_at hl 1 rfl) ?_
  refine lv_iload_n C.1.1 C.1.2.1 dX11_would_4 rfl (lv_at hl 2 rfl) ?_
  refine r_callI (As := [.int (iz 7), .int (iz a1), .int (iz a2)]) (rest := []) (rm := rmX11_whyNot) C hw shM_0 ltM_0 cO11 tw6_204 tw6_206 tp_62 tw1_12 tw6_207 hd_X11_whyNot rfl ⟨⟨rfl, rfl⟩, Nat.le_of_ble_eq_true rfl, Nat.le_of_ble_eq_true rfl⟩ hl.1 rfl (Nat.le_of_ble_eq_true rfl) dX11_would_5 hf (fun o ho => c_X11_whyNot l X hinj hZ N S 7 a1 a2 o ho) (fun v5 S5 H locs hf hw => ?_)
  refine r_iconst (v := (-1)) C dX11_would_8 ?_
  refine r_icmp_ne C (tgt := 21) dX11_would_9 (by decide) hf (fun hf => ?_) (fun hf => ?_)
  · refine r_iconst (v := (-1)) C dX11_would_21 ?_
    exact r_retI C hw dX11_would_22 hf
  · refine lv_iload_n C.1.1 C.1.2.1 dX11_would_12 rfl (lv_at hl 3 rfl) ?_
    refine r_iconst (v := 0) C dX11_would_13 ?_
    refine r_iconst (v := 2) C dX11_would_14 ?_
    refine r_scallI (As := [.int (iz a3), .int (iz 0), .int (iz 2)]) (rest := []) (rm := rmX11_in) C hw tw6_77 tw6_78 tw1_12 tw6_79 hd_X11_in rfl ⟨⟨rfl, rfl⟩, Nat.le_of_ble_eq_true rfl, Nat.le_of_ble_eq_true rfl⟩ hl.1 rfl (Nat.le_of_ble_eq_true rfl) dX11_would_15 hf (fun o ho => c_X11_in l X hinj hZ N S5 a3 0 2 o ho) (fun v15 S15 H locs hf hw => ?_)
    refine r_if_ne C (tgt := 23) dX11_would_18 (by decide) hf (fun hf => ?_) (fun hf => ?_)
    · refine lv_aload_n C.1.1 C.1.2.1 dX11_would_23 rfl (lv_at hl 0 rfl) ?_
      refine lv_iload_n C.1.1 C.1.2.1 dX11_would_24 rfl (lv_at hl 1 rfl) ?_
      refine lv_iload_n C.1.1 C.1.2.1 dX11_would_25 rfl (lv_at hl 2 rfl) ?_
      refine r_callI (As := [.int (iz a1), .int (iz a2)]) (rest := []) (rm := rmX11_sets) C hw shM_0 ltM_0 cO11 tw7_76 tw7_78 tp_88 tw1_12 tw7_79 hd_X11_sets rfl ⟨⟨rfl, rfl⟩, Nat.le_of_ble_eq_true rfl, Nat.le_of_ble_eq_true rfl⟩ hl.1 rfl (Nat.le_of_ble_eq_true rfl) dX11_would_26 hf (fun o ho => c_X11_sets l X hinj hZ N S15 a1 a2 o ho) (fun v26 S26 H locs hf hw => ?_)
      refine lv_istore (lv' := [(4, .int (iz v26)), (0, .ref (X.2.2 0)), (1, .int (iz a1)), (2, .int (iz a2)), (3, .int (iz a3))]) C.1.1 C.1.2.1 dX11_would_29 hl (by decide) rfl (fun ls hl => ?_)
      refine lv_aload_n C.1.1 C.1.2.1 dX11_would_31 rfl (lv_at hl 1 rfl) ?_
      refine r_callV (As := []) (rest := []) (rm := rmX11_finds) C hw shM_0 ltM_0 cO11 tw7_1 tw7_3 tp_70 tw1_12 tw7_4 hd_X11_finds rfl ⟨⟨rfl, rfl⟩, Nat.le_of_ble_eq_true rfl, Nat.le_of_ble_eq_true rfl⟩ hl.1 rfl (Nat.le_of_ble_eq_true rfl) dX11_would_32 hf (fun o ho => c_X11_finds l X hinj hZ N S26 o ho) (fun S32 H locs hf hw => ?_)
      refine lv_iload_n C.1.1 C.1.2.1 dX11_would_35 rfl (lv_at hl 4 rfl) ?_
      refine r_if_ne C (tgt := 46) dX11_would_36 (by decide) hf (fun hf => ?_) (fun hf => ?_)
      · refine lv_iload_n C.1.1 C.1.2.1 dX11_would_46 rfl (lv_at hl 4 rfl) ?_
        refine r_iconst (v := 1) C dX11_would_47 ?_
        refine r_icmp_ne C (tgt := 59) dX11_would_48 (by decide) hf (fun hf => ?_) (fun hf => ?_)
        · refine lv_aload_n C.1.1 C.1.2.1 dX11_would_59 rfl (lv_at hl 1 rfl) ?_
          refine r_getI (k := 35) C hw shM_0 ltM_0 cO11 rfl (by decide) tw5_179 rfl dX11_would_60 hf (fun v60 hf => ?_)
          exact (w_X11_would_63 l hinj hZ C out N) a1 v26 v60 S32 H locs ls hf hw (lv_sub hl [1, 2, 0] rfl)
        · refine lv_aload_n C.1.1 C.1.2.1 dX11_would_51 rfl (lv_at hl 1 rfl) ?_
          refine r_iconst (v := 0) C dX11_would_52 ?_
          refine r_callI (As := [.int (iz 0)]) (rest := []) (rm := rmX11_placeOf) C hw shM_0 ltM_0 cO11 tw7_41 tw7_43 tp_80 tw1_12 tw7_44 hd_X11_placeOf rfl ⟨⟨rfl, rfl⟩, Nat.le_of_ble_eq_true rfl, Nat.le_of_ble_eq_true rfl⟩ hl.1 rfl (Nat.le_of_ble_eq_true rfl) dX11_would_53 hf (fun o ho => c_X11_placeOf l X hinj hZ N S32 0 o ho) (fun v53 S53 H locs hf hw => ?_)
          refine lv_goto (tgt := 63) C.1.1 C.1.2.1 dX11_would_56 (by decide) ?_
          exact (w_X11_would_63 l hinj hZ C out N) a1 v26 v53 S53 H locs ls hf hw (lv_sub hl [1, 2, 0] rfl)
      · refine lv_aload_n C.1.1 C.1.2.1 dX11_would_39 rfl (lv_at hl 1 rfl) ?_
        refine r_getI (k := 38) C hw shM_0 ltM_0 cO11 rfl (by decide) tw5_182 rfl dX11_would_40 hf (fun v40 hf => ?_)
        refine lv_goto (tgt := 63) C.1.1 C.1.2.1 dX11_would_43 (by decide) ?_
        exact (w_X11_would_63 l hinj hZ C out N) a1 v26 v40 S32 H locs ls hf hw (lv_sub hl [1, 2, 0] rfl)
    · refine r_iconst (v := (-1)) C dX11_would_21 ?_
      exact r_retI C hw dX11_would_22 hf
def f_X11_solo (N : Nat) (S : S2) : Option (Int × S2) := gI S 0 29 fun v1 => cI v1 0 (if v1 = 0 then rI (-1) S else bV (f_X11_finds N S) fun S10 => bI (f_X11_tallestOf N S10 (-1)) fun v15 S15 => rI v15 S15)
abbrev rmX11_solo : Room := { frames := 4, cells := 0, slots := 0, locals := 93 }
theorem hd_X11_solo : yX11_solo.cls ≠ "java/lang/invoke/MethodHandle" ∧ yX11_solo.cls ≠ "java/lang/invoke/VarHandle" ∧ (parseMethodDescriptor yX11_solo.desc).map (fun d => d.parameters.length) = some 0 := by decide +kernel
set_option maxRecDepth 100000 in
set_option maxHeartbeats 4000000 in
theorem c_X11_solo (l : Launch) (X : XT) (hinj : XInj X nM) (hZ : ZOK (Zm X)) (N : Nat) (S : S2) (out : Int × S2) (hf : f_X11_solo N S = some out) : MI l X shM nM (Zm X) yX11_solo cX11_solo 1 (some .int) rmX11_solo [.ref (X.2.2 0)] S out := by
  refine met_I (own := RX11) (by decide) rfl hinj hZ (Nat.le_of_ble_eq_true rfl) (fun p e s m args below meth c C ls H locs hw hl => ?_)
  unfold f_X11_solo at hf
  have hl : lv_has ls 1 [(0, .ref (X.2.2 0))] := hl
  refine lv_aload_n C.1.1 C.1.2.1 dX11_solo_0 rfl (lv_at hl 0 rfl) ?_
  refine r_getI (k := 29) C hw shM_0 ltM_0 cO11 rfl (by decide) tw5_173 rfl dX11_solo_1 hf (fun v1 hf => ?_)
  refine r_if_ne C (tgt := 9) dX11_solo_4 (by decide) hf (fun hf => ?_) (fun hf => ?_)
  · refine lv_aload_n C.1.1 C.1.2.1 dX11_solo_9 rfl (lv_at hl 0 rfl) ?_
    refine r_callV (As := []) (rest := []) (rm := rmX11_finds) C hw shM_0 ltM_0 cO11 tw7_1 tw7_3 tp_70 tw1_12 tw7_4 hd_X11_finds rfl ⟨⟨rfl, rfl⟩, Nat.le_of_ble_eq_true rfl, Nat.le_of_ble_eq_true rfl⟩ hl.1 rfl (Nat.le_of_ble_eq_true rfl) dX11_solo_10 hf (fun o ho => c_X11_finds l X hinj hZ N S o ho) (fun S10 H locs hf hw => ?_)
    refine lv_aload_n C.1.1 C.1.2.1 dX11_solo_13 rfl (lv_at hl 0 rfl) ?_
    refine r_iconst (v := (-1)) C dX11_solo_14 ?_
    refine r_callI (As := [.int (iz (-1))]) (rest := []) (rm := rmX11_tallestOf) C hw shM_0 ltM_0 cO11 tw8_42 tw8_44 tp_110 tw1_12 tw8_45 hd_X11_tallestOf rfl ⟨⟨rfl, rfl⟩, Nat.le_of_ble_eq_true rfl, Nat.le_of_ble_eq_true rfl⟩ hl.1 rfl (Nat.le_of_ble_eq_true rfl) dX11_solo_15 hf (fun o ho => c_X11_tallestOf l X hinj hZ N S10 (-1) o ho) (fun v15 S15 H locs hf hw => ?_)
    exact r_retI C hw dX11_solo_18 hf
  · refine r_iconst (v := (-1)) C dX11_solo_7 ?_
    exact r_retI C hw dX11_solo_8 hf
def f_X11_tallest (N : Nat) (S : S2) (a1 : Int) : Option (Int × S2) := gI S 0 29 fun v1 => cI v1 0 (if v1 = 0 then rI (-1) S else cI a1 0 (if 0 ≤ a1 then bV (f_X11_finds N S) fun S14 => bI (f_X11_tallestOf N S14 a1) fun v19 S19 => rI v19 S19 else rI (-1) S))
abbrev rmX11_tallest : Room := { frames := 4, cells := 0, slots := 0, locals := 93 }
theorem hd_X11_tallest : yX11_tallest.cls ≠ "java/lang/invoke/MethodHandle" ∧ yX11_tallest.cls ≠ "java/lang/invoke/VarHandle" ∧ (parseMethodDescriptor yX11_tallest.desc).map (fun d => d.parameters.length) = some 1 := by decide +kernel
set_option maxRecDepth 100000 in
set_option maxHeartbeats 4000000 in
theorem c_X11_tallest (l : Launch) (X : XT) (hinj : XInj X nM) (hZ : ZOK (Zm X)) (N : Nat) (S : S2) (a1 : Int) (out : Int × S2) (hf : f_X11_tallest N S a1 = some out) : MI l X shM nM (Zm X) yX11_tallest cX11_tallest 2 (some .int) rmX11_tallest [.ref (X.2.2 0), .int (iz a1)] S out := by
  refine met_I (own := RX11) (by decide) rfl hinj hZ (Nat.le_of_ble_eq_true rfl) (fun p e s m args below meth c C ls H locs hw hl => ?_)
  unfold f_X11_tallest at hf
  have hl : lv_has ls 2 [(0, .ref (X.2.2 0)), (1, .int (iz a1))] := hl
  refine lv_aload_n C.1.1 C.1.2.1 dX11_tallest_0 rfl (lv_at hl 0 rfl) ?_
  refine r_getI (k := 29) C hw shM_0 ltM_0 cO11 rfl (by decide) tw5_173 rfl dX11_tallest_1 hf (fun v1 hf => ?_)
  refine r_if_eq C (tgt := 11) dX11_tallest_4 (by decide) hf (fun hf => ?_) (fun hf => ?_)
  · refine r_iconst (v := (-1)) C dX11_tallest_11 ?_
    exact r_retI C hw dX11_tallest_12 hf
  · refine lv_iload_n C.1.1 C.1.2.1 dX11_tallest_7 rfl (lv_at hl 1 rfl) ?_
    refine r_if_ge C (tgt := 13) dX11_tallest_8 (by decide) hf (fun hf => ?_) (fun hf => ?_)
    · refine lv_aload_n C.1.1 C.1.2.1 dX11_tallest_13 rfl (lv_at hl 0 rfl) ?_
      refine r_callV (As := []) (rest := []) (rm := rmX11_finds) C hw shM_0 ltM_0 cO11 tw7_1 tw7_3 tp_70 tw1_12 tw7_4 hd_X11_finds rfl ⟨⟨rfl, rfl⟩, Nat.le_of_ble_eq_true rfl, Nat.le_of_ble_eq_true rfl⟩ hl.1 rfl (Nat.le_of_ble_eq_true rfl) dX11_tallest_14 hf (fun o ho => c_X11_finds l X hinj hZ N S o ho) (fun S14 H locs hf hw => ?_)
      refine lv_aload_n C.1.1 C.1.2.1 dX11_tallest_17 rfl (lv_at hl 0 rfl) ?_
      refine lv_iload_n C.1.1 C.1.2.1 dX11_tallest_18 rfl (lv_at hl 1 rfl) ?_
      refine r_callI (As := [.int (iz a1)]) (rest := []) (rm := rmX11_tallestOf) C hw shM_0 ltM_0 cO11 tw8_42 tw8_44 tp_110 tw1_12 tw8_45 hd_X11_tallestOf rfl ⟨⟨rfl, rfl⟩, Nat.le_of_ble_eq_true rfl, Nat.le_of_ble_eq_true rfl⟩ hl.1 rfl (Nat.le_of_ble_eq_true rfl) dX11_tallest_19 hf (fun o ho => c_X11_tallestOf l X hinj hZ N S14 a1 o ho) (fun v19 S19 H locs hf hw => ?_)
      exact r_retI C hw dX11_tallest_22 hf
    · refine r_iconst (v := (-1)) C dX11_tallest_11 ?_
      exact r_retI C hw dX11_tallest_12 hf
def f_X11_change_67 (N : Nat) (x1 : Int) (x2 : Int) (x3 : Int) (S : S2) : Option (Int × S2) := cI x1 0 (if x1 = 0 then rI x2 S else rI x3 S)
def f_X11_change_61 (k25 : Int → Int → Int → Int → S2 → Option (Int × S2)) (N : Nat) (x1 : Int) (x2 : Int) (x3 : Int) (x4 : Int) (S : S2) : Option (Int × S2) := k25 x1 x2 x3 (x4 + 1) S
def f_X11_change_55 (k25 : Int → Int → Int → Int → S2 → Option (Int × S2)) (N : Nat) (x1 : Int) (x4 : Int) (x5 : Int) (S : S2) : Option (Int × S2) := (f_X11_change_61 k25 N) x1 x4 x5 x4 S
def f_X11_change_25 (k67 : Int → Int → Int → S2 → Option (Int × S2)) : Nat → Int → Int → Int → Int → S2 → Option (Int × S2)
  | 0, _, _, _, _, _ => none
  | N + 1, x1, x2, x3, x4, S => bI (f_X11_many N S) fun v28 S28 => cI x4 v28 (if v28 ≤ x4 then k67 x1 x2 x3 S28 else bI (f_X11_would N S28 x4 0 0) fun v39 S39 => cI x2 (-1) (if x2 = (-1) then (f_X11_change_55 (f_X11_change_25 k67 N) N) x1 x4 v39 S39 else cI v39 x3 (if x3 ≤ v39 then (f_X11_change_61 (f_X11_change_25 k67 N) N) x1 x2 x3 x4 S39 else (f_X11_change_55 (f_X11_change_25 k67 N) N) x1 x4 v39 S39)))
def f_X11_change (N : Nat) (S : S2) (a1 : Int) : Option (Int × S2) := gI S 0 29 fun v1 => cI v1 0 (if v1 = 0 then rI (-1) S else bI (f_X11_in N S a1 0 1) fun v10 S10 => cI v10 0 (if v10 = 0 then rI (-1) S10 else (f_X11_change_25 (f_X11_change_67 N) N) a1 (-1) 0 0 S10))
abbrev rmX11_change : Room := { frames := 5, cells := 0, slots := 0, locals := 118 }
theorem hd_X11_change : yX11_change.cls ≠ "java/lang/invoke/MethodHandle" ∧ yX11_change.cls ≠ "java/lang/invoke/VarHandle" ∧ (parseMethodDescriptor yX11_change.desc).map (fun d => d.parameters.length) = some 1 := by decide +kernel
set_option maxRecDepth 100000 in
set_option maxHeartbeats 4000000 in
theorem w_X11_change_67 {p : Program} (l : Launch) {e : Env} {s : State} {m : MethodId} {args : Array Value} {below : List Frame} {meth : Method} {c : Code} {X : XT} (hinj : XInj X nM) (hZ : ZOK (Zm X)) (C : CX p s m args meth c cX11_change 6 RX11 (some .int) X nM (Zm X)) (out : Int × S2) : ∀ (N : Nat), ∀ (x1 : Int) (x2 : Int) (x3 : Int) (S : S2) (H : Heap) (locs : List Loc) (ls : Array Slot), f_X11_change_67 N x1 x2 x3 S = some out → WH X shM nM s S H locs → lv_has ls 6 [(1, .int (iz x1)), (2, .int (iz x2)), (3, .int (iz x3))] → W p l e rmX11_change s m args below meth c H locs 0 0 (QI X shM nM s args below out) (F0 m 67 ls []) := by
  intro N x1 x2 x3 S H locs ls hf hw hl
  unfold f_X11_change_67 at hf
  refine lv_iload_n C.1.1 C.1.2.1 dX11_change_67 rfl (lv_at hl 0 rfl) ?_
  refine r_if_ne C (tgt := 75) dX11_change_68 (by decide) hf (fun hf => ?_) (fun hf => ?_)
  · refine lv_iload_n C.1.1 C.1.2.1 dX11_change_75 rfl (lv_at hl 2 rfl) ?_
    exact r_retI C hw dX11_change_76 hf
  · refine lv_iload_n C.1.1 C.1.2.1 dX11_change_71 rfl (lv_at hl 1 rfl) ?_
    refine lv_goto (tgt := 76) C.1.1 C.1.2.1 dX11_change_72 (by decide) ?_
    exact r_retI C hw dX11_change_76 hf
set_option maxRecDepth 100000 in
set_option maxHeartbeats 4000000 in
theorem w_X11_change_61 {p : Program} (l : Launch) {e : Env} {s : State} {m : MethodId} {args : Array Value} {below : List Frame} {meth : Method} {c : Code} {X : XT} (hinj : XInj X nM) (hZ : ZOK (Zm X)) (C : CX p s m args meth c cX11_change 6 RX11 (some .int) X nM (Zm X)) (out : Int × S2) (k25 : Int → Int → Int → Int → S2 → Option (Int × S2)) (hk25 : ∀ (x1 : Int) (x2 : Int) (x3 : Int) (x4 : Int) (S : S2) (H : Heap) (locs : List Loc) (ls : Array Slot), k25 x1 x2 x3 x4 S = some out → WH X shM nM s S H locs → lv_has ls 6 [(0, .ref (X.2.2 0)), (1, .int (iz x1)), (2, .int (iz x2)), (3, .int (iz x3)), (4, .int (iz x4))] → W p l e rmX11_change s m args below meth c H locs 0 0 (QI X shM nM s args below out) (F0 m 25 ls [])) : ∀ (N : Nat), ∀ (x1 : Int) (x2 : Int) (x3 : Int) (x4 : Int) (S : S2) (H : Heap) (locs : List Loc) (ls : Array Slot), f_X11_change_61 k25 N x1 x2 x3 x4 S = some out → WH X shM nM s S H locs → lv_has ls 6 [(0, .ref (X.2.2 0)), (1, .int (iz x1)), (2, .int (iz x2)), (3, .int (iz x3)), (4, .int (iz x4))] → W p l e rmX11_change s m args below meth c H locs 0 0 (QI X shM nM s args below out) (F0 m 61 ls []) := by
  intro N x1 x2 x3 x4 S H locs ls hf hw hl
  unfold f_X11_change_61 at hf
  refine lv_iinc (v := iz (x4 + 1)) (lv' := [(4, .int (iz (x4 + 1))), (0, .ref (X.2.2 0)), (1, .int (iz x1)), (2, .int (iz x2)), (3, .int (iz x3))]) C.1.1 C.1.2.1 dX11_change_61 hl (k := 4) rfl (iz_add _ _) (by decide) rfl (fun ls hl => ?_)
  refine lv_goto (tgt := 25) C.1.1 C.1.2.1 dX11_change_64 (by decide) ?_
  exact hk25 x1 x2 x3 (x4 + 1) S H locs ls hf hw (lv_sub hl [1, 2, 3, 4, 0] rfl)
set_option maxRecDepth 100000 in
set_option maxHeartbeats 4000000 in
theorem w_X11_change_55 {p : Program} (l : Launch) {e : Env} {s : State} {m : MethodId} {args : Array Value} {below : List Frame} {meth : Method} {c : Code} {X : XT} (hinj : XInj X nM) (hZ : ZOK (Zm X)) (C : CX p s m args meth c cX11_change 6 RX11 (some .int) X nM (Zm X)) (out : Int × S2) (k25 : Int → Int → Int → Int → S2 → Option (Int × S2)) (hk25 : ∀ (x1 : Int) (x2 : Int) (x3 : Int) (x4 : Int) (S : S2) (H : Heap) (locs : List Loc) (ls : Array Slot), k25 x1 x2 x3 x4 S = some out → WH X shM nM s S H locs → lv_has ls 6 [(0, .ref (X.2.2 0)), (1, .int (iz x1)), (2, .int (iz x2)), (3, .int (iz x3)), (4, .int (iz x4))] → W p l e rmX11_change s m args below meth c H locs 0 0 (QI X shM nM s args below out) (F0 m 25 ls [])) : ∀ (N : Nat), ∀ (x1 : Int) (x4 : Int) (x5 : Int) (S : S2) (H : Heap) (locs : List Loc) (ls : Array Slot), f_X11_change_55 k25 N x1 x4 x5 S = some out → WH X shM nM s S H locs → lv_has ls 6 [(0, .ref (X.2.2 0)), (1, .int (iz x1)), (4, .int (iz x4)), (5, .int (iz x5))] → W p l e rmX11_change s m args below meth c H locs 0 0 (QI X shM nM s args below out) (F0 m 55 ls []) := by
  intro N x1 x4 x5 S H locs ls hf hw hl
  unfold f_X11_change_55 at hf
  refine lv_iload C.1.1 C.1.2.1 dX11_change_55 (lv_at hl 2 rfl) ?_
  refine lv_istore_n (lv' := [(2, .int (iz x4)), (0, .ref (X.2.2 0)), (1, .int (iz x1)), (4, .int (iz x4)), (5, .int (iz x5))]) C.1.1 C.1.2.1 dX11_change_57 rfl hl (by decide) rfl (fun ls hl => ?_)
  refine lv_iload C.1.1 C.1.2.1 dX11_change_58 (lv_at hl 4 rfl) ?_
  refine lv_istore_n (lv' := [(3, .int (iz x5)), (2, .int (iz x4)), (0, .ref (X.2.2 0)), (1, .int (iz x1)), (4, .int (iz x4)), (5, .int (iz x5))]) C.1.1 C.1.2.1 dX11_change_60 rfl hl (by decide) rfl (fun ls hl => ?_)
  exact (w_X11_change_61 l hinj hZ C out k25 hk25 N) x1 x4 x5 x4 S H locs ls hf hw (lv_sub hl [2, 3, 1, 0, 4] rfl)
set_option maxRecDepth 100000 in
set_option maxHeartbeats 4000000 in
theorem w_X11_change_25 {p : Program} (l : Launch) {e : Env} {s : State} {m : MethodId} {args : Array Value} {below : List Frame} {meth : Method} {c : Code} {X : XT} (hinj : XInj X nM) (hZ : ZOK (Zm X)) (C : CX p s m args meth c cX11_change 6 RX11 (some .int) X nM (Zm X)) (out : Int × S2) (k67 : Int → Int → Int → S2 → Option (Int × S2)) (hk67 : ∀ (x1 : Int) (x2 : Int) (x3 : Int) (S : S2) (H : Heap) (locs : List Loc) (ls : Array Slot), k67 x1 x2 x3 S = some out → WH X shM nM s S H locs → lv_has ls 6 [(1, .int (iz x1)), (2, .int (iz x2)), (3, .int (iz x3))] → W p l e rmX11_change s m args below meth c H locs 0 0 (QI X shM nM s args below out) (F0 m 67 ls [])) : ∀ (N : Nat), ∀ (x1 : Int) (x2 : Int) (x3 : Int) (x4 : Int) (S : S2) (H : Heap) (locs : List Loc) (ls : Array Slot), f_X11_change_25 k67 N x1 x2 x3 x4 S = some out → WH X shM nM s S H locs → lv_has ls 6 [(0, .ref (X.2.2 0)), (1, .int (iz x1)), (2, .int (iz x2)), (3, .int (iz x3)), (4, .int (iz x4))] → W p l e rmX11_change s m args below meth c H locs 0 0 (QI X shM nM s args below out) (F0 m 25 ls []) := by
  intro N
  induction N with
  | zero => intro x1 x2 x3 x4 S H locs ls hf hw hl; cases hf
  | succ N ih =>
    intro x1 x2 x3 x4 S H locs ls hf hw hl
    rw [f_X11_change_25.eq_2] at hf
    refine lv_iload C.1.1 C.1.2.1 dX11_change_25 (lv_at hl 4 rfl) ?_
    refine lv_aload_n C.1.1 C.1.2.1 dX11_change_27 rfl (lv_at hl 0 rfl) ?_
    refine r_callI (As := []) (rest := [.int (iz x4)]) (rm := rmX11_many) C hw shM_0 ltM_0 cO11 tw6_192 tw6_194 tp_60 tw1_12 tw6_195 hd_X11_many rfl ⟨⟨rfl, rfl⟩, Nat.le_of_ble_eq_true rfl, Nat.le_of_ble_eq_true rfl⟩ hl.1 rfl (Nat.le_of_ble_eq_true rfl) dX11_change_28 hf (fun o ho => c_X11_many l X hinj hZ N S o ho) (fun v28 S28 H locs hf hw => ?_)
    refine r_icmp_ge C (tgt := 67) dX11_change_31 (by decide) hf (fun hf => ?_) (fun hf => ?_)
    · exact hk67 x1 x2 x3 S28 H locs ls hf hw (lv_sub hl [1, 2, 3] rfl)
    · refine lv_aload_n C.1.1 C.1.2.1 dX11_change_34 rfl (lv_at hl 0 rfl) ?_
      refine lv_iload C.1.1 C.1.2.1 dX11_change_35 (lv_at hl 4 rfl) ?_
      refine r_iconst (v := 0) C dX11_change_37 ?_
      refine r_iconst (v := 0) C dX11_change_38 ?_
      refine r_callI (As := [.int (iz x4), .int (iz 0), .int (iz 0)]) (rest := []) (rm := rmX11_would) C hw shM_0 ltM_0 cO11 tw8_54 tw8_35 tw8_36 tw1_12 tw8_37 hd_X11_would rfl ⟨⟨rfl, rfl⟩, Nat.le_of_ble_eq_true rfl, Nat.le_of_ble_eq_true rfl⟩ hl.1 rfl (Nat.le_of_ble_eq_true rfl) dX11_change_39 hf (fun o ho => c_X11_would l X hinj hZ N S28 x4 0 0 o ho) (fun v39 S39 H locs hf hw => ?_)
      refine lv_istore (lv' := [(5, .int (iz v39)), (0, .ref (X.2.2 0)), (1, .int (iz x1)), (2, .int (iz x2)), (3, .int (iz x3)), (4, .int (iz x4))]) C.1.1 C.1.2.1 dX11_change_42 hl (by decide) rfl (fun ls hl => ?_)
      refine lv_iload_n C.1.1 C.1.2.1 dX11_change_44 rfl (lv_at hl 3 rfl) ?_
      refine r_iconst (v := (-1)) C dX11_change_45 ?_
      refine r_icmp_eq C (tgt := 55) dX11_change_46 (by decide) hf (fun hf => ?_) (fun hf => ?_)
      · exact (w_X11_change_55 l hinj hZ C out (f_X11_change_25 k67 N) ih N) x1 x4 v39 S39 H locs ls hf hw (lv_sub hl [1, 2, 5, 0] rfl)
      · refine lv_iload C.1.1 C.1.2.1 dX11_change_49 (lv_at hl 0 rfl) ?_
        refine lv_iload_n C.1.1 C.1.2.1 dX11_change_51 rfl (lv_at hl 4 rfl) ?_
        refine r_icmp_ge C (tgt := 61) dX11_change_52 (by decide) hf (fun hf => ?_) (fun hf => ?_)
        · exact (w_X11_change_61 l hinj hZ C out (f_X11_change_25 k67 N) ih N) x1 x2 x3 x4 S39 H locs ls hf hw (lv_sub hl [1, 2, 3, 4, 5] rfl)
        · exact (w_X11_change_55 l hinj hZ C out (f_X11_change_25 k67 N) ih N) x1 x4 v39 S39 H locs ls hf hw (lv_sub hl [1, 2, 5, 0] rfl)
set_option maxRecDepth 100000 in
set_option maxHeartbeats 4000000 in
theorem c_X11_change (l : Launch) (X : XT) (hinj : XInj X nM) (hZ : ZOK (Zm X)) (N : Nat) (S : S2) (a1 : Int) (out : Int × S2) (hf : f_X11_change N S a1 = some out) : MI l X shM nM (Zm X) yX11_change cX11_change 6 (some .int) rmX11_change [.ref (X.2.2 0), .int (iz a1)] S out := by
  refine met_I (own := RX11) (by decide) rfl hinj hZ (Nat.le_of_ble_eq_true rfl) (fun p e s m args below meth c C ls H locs hw hl => ?_)
  unfold f_X11_change at hf
  have hl : lv_has ls 6 [(0, .ref (X.2.2 0)), (1, .int (iz a1))] := hl
  refine lv_aload_n C.1.1 C.1.2.1 dX11_change_0 rfl (lv_at hl 0 rfl) ?_
  refine r_getI (k := 29) C hw shM_0 ltM_0 cO11 rfl (by decide) tw5_173 rfl dX11_change_1 hf (fun v1 hf => ?_)
  refine r_if_eq C (tgt := 16) dX11_change_4 (by decide) hf (fun hf => ?_) (fun hf => ?_)
  · refine r_iconst (v := (-1)) C dX11_change_16 ?_
    exact r_retI C hw dX11_change_17 hf
  · refine lv_iload_n C.1.1 C.1.2.1 dX11_change_7 rfl (lv_at hl 1 rfl) ?_
    refine r_iconst (v := 0) C dX11_change_8 ?_
    refine r_iconst (v := 1) C dX11_change_9 ?_
    refine r_scallI (As := [.int (iz a1), .int (iz 0), .int (iz 1)]) (rest := []) (rm := rmX11_in) C hw tw6_77 tw6_78 tw1_12 tw6_79 hd_X11_in rfl ⟨⟨rfl, rfl⟩, Nat.le_of_ble_eq_true rfl, Nat.le_of_ble_eq_true rfl⟩ hl.1 rfl (Nat.le_of_ble_eq_true rfl) dX11_change_10 hf (fun o ho => c_X11_in l X hinj hZ N S a1 0 1 o ho) (fun v10 S10 H locs hf hw => ?_)
    refine r_if_ne C (tgt := 18) dX11_change_13 (by decide) hf (fun hf => ?_) (fun hf => ?_)
    · refine r_iconst (v := (-1)) C dX11_change_18 ?_
      refine lv_istore_n (lv' := [(2, .int (iz (-1))), (0, .ref (X.2.2 0)), (1, .int (iz a1))]) C.1.1 C.1.2.1 dX11_change_19 rfl hl (by decide) rfl (fun ls hl => ?_)
      refine r_iconst (v := 0) C dX11_change_20 ?_
      refine lv_istore_n (lv' := [(3, .int (iz 0)), (2, .int (iz (-1))), (0, .ref (X.2.2 0)), (1, .int (iz a1))]) C.1.1 C.1.2.1 dX11_change_21 rfl hl (by decide) rfl (fun ls hl => ?_)
      refine r_iconst (v := 0) C dX11_change_22 ?_
      refine lv_istore (lv' := [(4, .int (iz 0)), (3, .int (iz 0)), (2, .int (iz (-1))), (0, .ref (X.2.2 0)), (1, .int (iz a1))]) C.1.1 C.1.2.1 dX11_change_23 hl (by decide) rfl (fun ls hl => ?_)
      exact (w_X11_change_25 l hinj hZ C out (f_X11_change_67 N) (w_X11_change_67 l hinj hZ C out N) N) a1 (-1) 0 0 S10 H locs ls hf hw (lv_sub hl [3, 4, 2, 1, 0] rfl)
    · refine r_iconst (v := (-1)) C dX11_change_16 ?_
      exact r_retI C hw dX11_change_17 hf
def f_X11_spell (N : Nat) (S : S2) (a1 : Int) (a2 : Int) : Option (Int × S2) := bI (f_X11_isPeak N S a1) fun v2 S2 => cI v2 0 (if v2 = 0 then rI (-1) S2 else bI (f_X11_isKept N S2 a1) fun v10 S10 => cI v10 0 (if v10 = 0 then rI (-1) S10 else uI S10 0 51 0 fun S20 => aI S20 20 48 a1 fun v29 => bV (f_X11_spellsName N S20 v29) fun S30 => bV (f_X11_spells N S30 64) fun S36 => bI (f_X11_placeOf N S36 a1) fun v42 S42 => bV (f_X11_spellsNumber N S42 v42) fun S45 => bV (f_X11_spells N S45 58) fun S51 => bI (f_X11_height N S51 a1) fun v57 S57 => bV (f_X11_spellsNumber N S57 v57) fun S60 => cI a2 (-1) (if a2 = (-1) then gI S60 0 51 fun v69 => rI v69 S60 else gI S60 0 51 fun v78 => bI (f_X11_in N S60 a2 0 (v78 - 1)) fun v83 S83 => cI v83 0 (if v83 = 0 then rI (-1) S83 else aI S83 27 40 a2 fun v94 => rI v94 S83))))
abbrev rmX11_spell : Room := { frames := 5, cells := 0, slots := 0, locals := 114 }
theorem hd_X11_spell : yX11_spell.cls ≠ "java/lang/invoke/MethodHandle" ∧ yX11_spell.cls ≠ "java/lang/invoke/VarHandle" ∧ (parseMethodDescriptor yX11_spell.desc).map (fun d => d.parameters.length) = some 2 := by decide +kernel
set_option maxRecDepth 100000 in
set_option maxHeartbeats 4000000 in
theorem c_X11_spell (l : Launch) (X : XT) (hinj : XInj X nM) (hZ : ZOK (Zm X)) (N : Nat) (S : S2) (a1 : Int) (a2 : Int) (out : Int × S2) (hf : f_X11_spell N S a1 a2 = some out) : MI l X shM nM (Zm X) yX11_spell cX11_spell 3 (some .int) rmX11_spell [.ref (X.2.2 0), .int (iz a1), .int (iz a2)] S out := by
  refine met_I (own := RX11) (by decide) rfl hinj hZ (Nat.le_of_ble_eq_true rfl) (fun p e s m args below meth c C ls H locs hw hl => ?_)
  unfold f_X11_spell at hf
  have hl : lv_has ls 3 [(0, .ref (X.2.2 0)), (1, .int (iz a1)), (2, .int (iz a2))] := hl
  refine lv_aload_n C.1.1 C.1.2.1 dX11_spell_0 rfl (lv_at hl 0 rfl) ?_
  refine lv_iload_n C.1.1 C.1.2.1 dX11_spell_1 rfl (lv_at hl 1 rfl) ?_
  refine r_callI (As := [.int (iz a1)]) (rest := []) (rm := rmX11_isPeak) C hw shM_0 ltM_0 cO11 tw7_166 tw7_168 tp_94 tw1_12 tw7_169 hd_X11_isPeak rfl ⟨⟨rfl, rfl⟩, Nat.le_of_ble_eq_true rfl, Nat.le_of_ble_eq_true rfl⟩ hl.1 rfl (Nat.le_of_ble_eq_true rfl) dX11_spell_2 hf (fun o ho => c_X11_isPeak l X hinj hZ N S a1 o ho) (fun v2 S2 H locs hf hw => ?_)
  refine r_if_eq C (tgt := 16) dX11_spell_5 (by decide) hf (fun hf => ?_) (fun hf => ?_)
  · refine r_iconst (v := (-1)) C dX11_spell_16 ?_
    exact r_retI C hw dX11_spell_17 hf
  · refine lv_aload_n C.1.1 C.1.2.1 dX11_spell_8 rfl (lv_at hl 0 rfl) ?_
    refine lv_iload_n C.1.1 C.1.2.1 dX11_spell_9 rfl (lv_at hl 1 rfl) ?_
    refine r_callI (As := [.int (iz a1)]) (rest := []) (rm := rmX11_isKept) C hw shM_0 ltM_0 cO11 tw7_178 tw7_180 tp_97 tw1_12 tw7_181 hd_X11_isKept rfl ⟨⟨rfl, rfl⟩, Nat.le_of_ble_eq_true rfl, Nat.le_of_ble_eq_true rfl⟩ hl.1 rfl (Nat.le_of_ble_eq_true rfl) dX11_spell_10 hf (fun o ho => c_X11_isKept l X hinj hZ N S2 a1 o ho) (fun v10 S10 H locs hf hw => ?_)
    refine r_if_ne C (tgt := 18) dX11_spell_13 (by decide) hf (fun hf => ?_) (fun hf => ?_)
    · refine lv_aload_n C.1.1 C.1.2.1 dX11_spell_18 rfl (lv_at hl 0 rfl) ?_
      refine r_iconst (v := 0) C dX11_spell_19 ?_
      refine r_putI (k := 51) C hw shM_0 ltM_0 cO11 rfl (by decide) tw5_195 rfl rfl rfl dX11_spell_20 hf (fun S20 H locs hf hw => ?_)
      refine lv_aload_n C.1.1 C.1.2.1 dX11_spell_23 rfl (lv_at hl 0 rfl) ?_
      refine lv_aload_n C.1.1 C.1.2.1 dX11_spell_24 rfl (lv_at hl 0 rfl) ?_
      refine r_getR (k := 39) C hw shM_0 ltM_0 cO11 rfl (by decide) tw5_183 rfl dX11_spell_25 ?_
      refine lv_iload_n C.1.1 C.1.2.1 dX11_spell_28 rfl (lv_at hl 1 rfl) ?_
      refine r_iald C hw shM_20 ltM_20 (Nat.le_of_ble_eq_true rfl) dX11_spell_29 hf (fun v29 hf => ?_)
      refine r_callV (As := [.int (iz v29)]) (rest := []) (rm := rmX11_spellsName) C hw shM_0 ltM_0 cO11 tw8_59 tw8_61 tp_111 tw1_12 tw8_62 hd_X11_spellsName rfl ⟨⟨rfl, rfl⟩, Nat.le_of_ble_eq_true rfl, Nat.le_of_ble_eq_true rfl⟩ hl.1 rfl (Nat.le_of_ble_eq_true rfl) dX11_spell_30 hf (fun o ho => c_X11_spellsName l X hinj hZ N S20 v29 o ho) (fun S30 H locs hf hw => ?_)
      refine lv_aload_n C.1.1 C.1.2.1 dX11_spell_33 rfl (lv_at hl 0 rfl) ?_
      refine r_bipush (v := 64) C dX11_spell_34 (by decide) ?_
      refine r_callV (As := [.int (iz 64)]) (rest := []) (rm := rmX11_spells) C hw shM_0 ltM_0 cO11 tw8_63 tw8_65 tp_112 tw1_12 tw8_66 hd_X11_spells rfl ⟨⟨rfl, rfl⟩, Nat.le_of_ble_eq_true rfl, Nat.le_of_ble_eq_true rfl⟩ hl.1 rfl (Nat.le_of_ble_eq_true rfl) dX11_spell_36 hf (fun o ho => c_X11_spells l X hinj hZ N S30 64 o ho) (fun S36 H locs hf hw => ?_)
      refine lv_aload_n C.1.1 C.1.2.1 dX11_spell_39 rfl (lv_at hl 0 rfl) ?_
      refine lv_aload_n C.1.1 C.1.2.1 dX11_spell_40 rfl (lv_at hl 0 rfl) ?_
      refine lv_iload_n C.1.1 C.1.2.1 dX11_spell_41 rfl (lv_at hl 1 rfl) ?_
      refine r_callI (As := [.int (iz a1)]) (rest := [.ref (X.2.2 0)]) (rm := rmX11_placeOf) C hw shM_0 ltM_0 cO11 tw7_41 tw7_43 tp_80 tw1_12 tw7_44 hd_X11_placeOf rfl ⟨⟨rfl, rfl⟩, Nat.le_of_ble_eq_true rfl, Nat.le_of_ble_eq_true rfl⟩ hl.1 rfl (Nat.le_of_ble_eq_true rfl) dX11_spell_42 hf (fun o ho => c_X11_placeOf l X hinj hZ N S36 a1 o ho) (fun v42 S42 H locs hf hw => ?_)
      refine r_callV (As := [.int (iz v42)]) (rest := []) (rm := rmX11_spellsNumber) C hw shM_0 ltM_0 cO11 tw8_67 tw8_69 tp_113 tw1_12 tw8_70 hd_X11_spellsNumber rfl ⟨⟨rfl, rfl⟩, Nat.le_of_ble_eq_true rfl, Nat.le_of_ble_eq_true rfl⟩ hl.1 rfl (Nat.le_of_ble_eq_true rfl) dX11_spell_45 hf (fun o ho => c_X11_spellsNumber l X hinj hZ N S42 v42 o ho) (fun S45 H locs hf hw => ?_)
      refine lv_aload_n C.1.1 C.1.2.1 dX11_spell_48 rfl (lv_at hl 0 rfl) ?_
      refine r_bipush (v := 58) C dX11_spell_49 (by decide) ?_
      refine r_callV (As := [.int (iz 58)]) (rest := []) (rm := rmX11_spells) C hw shM_0 ltM_0 cO11 tw8_63 tw8_65 tp_112 tw1_12 tw8_66 hd_X11_spells rfl ⟨⟨rfl, rfl⟩, Nat.le_of_ble_eq_true rfl, Nat.le_of_ble_eq_true rfl⟩ hl.1 rfl (Nat.le_of_ble_eq_true rfl) dX11_spell_51 hf (fun o ho => c_X11_spells l X hinj hZ N S45 58 o ho) (fun S51 H locs hf hw => ?_)
      refine lv_aload_n C.1.1 C.1.2.1 dX11_spell_54 rfl (lv_at hl 0 rfl) ?_
      refine lv_aload_n C.1.1 C.1.2.1 dX11_spell_55 rfl (lv_at hl 0 rfl) ?_
      refine lv_iload_n C.1.1 C.1.2.1 dX11_spell_56 rfl (lv_at hl 1 rfl) ?_
      refine r_callI (As := [.int (iz a1)]) (rest := [.ref (X.2.2 0)]) (rm := rmX11_height) C hw shM_0 ltM_0 cO11 tw7_170 tw7_172 tp_95 tw1_12 tw7_173 hd_X11_height rfl ⟨⟨rfl, rfl⟩, Nat.le_of_ble_eq_true rfl, Nat.le_of_ble_eq_true rfl⟩ hl.1 rfl (Nat.le_of_ble_eq_true rfl) dX11_spell_57 hf (fun o ho => c_X11_height l X hinj hZ N S51 a1 o ho) (fun v57 S57 H locs hf hw => ?_)
      refine r_callV (As := [.int (iz v57)]) (rest := []) (rm := rmX11_spellsNumber) C hw shM_0 ltM_0 cO11 tw8_67 tw8_69 tp_113 tw1_12 tw8_70 hd_X11_spellsNumber rfl ⟨⟨rfl, rfl⟩, Nat.le_of_ble_eq_true rfl, Nat.le_of_ble_eq_true rfl⟩ hl.1 rfl (Nat.le_of_ble_eq_true rfl) dX11_spell_60 hf (fun o ho => c_X11_spellsNumber l X hinj hZ N S57 v57 o ho) (fun S60 H locs hf hw => ?_)
      refine lv_iload_n C.1.1 C.1.2.1 dX11_spell_63 rfl (lv_at hl 2 rfl) ?_
      refine r_iconst (v := (-1)) C dX11_spell_64 ?_
      refine r_icmp_ne C (tgt := 75) dX11_spell_65 (by decide) hf (fun hf => ?_) (fun hf => ?_)
      · refine lv_iload_n C.1.1 C.1.2.1 dX11_spell_75 rfl (lv_at hl 2 rfl) ?_
        refine r_iconst (v := 0) C dX11_spell_76 ?_
        refine lv_aload_n C.1.1 C.1.2.1 dX11_spell_77 rfl (lv_at hl 0 rfl) ?_
        refine r_getI (k := 51) C hw shM_0 ltM_0 cO11 rfl (by decide) tw5_195 rfl dX11_spell_78 hf (fun v78 hf => ?_)
        refine r_iconst (v := 1) C dX11_spell_81 ?_
        refine r_isub C dX11_spell_82 ?_
        refine r_scallI (As := [.int (iz a2), .int (iz 0), .int (iz (v78 - 1))]) (rest := []) (rm := rmX11_in) C hw tw6_77 tw6_78 tw1_12 tw6_79 hd_X11_in rfl ⟨⟨rfl, rfl⟩, Nat.le_of_ble_eq_true rfl, Nat.le_of_ble_eq_true rfl⟩ hl.1 rfl (Nat.le_of_ble_eq_true rfl) dX11_spell_83 hf (fun o ho => c_X11_in l X hinj hZ N S60 a2 0 (v78 - 1) o ho) (fun v83 S83 H locs hf hw => ?_)
        refine r_if_eq C (tgt := 98) dX11_spell_86 (by decide) hf (fun hf => ?_) (fun hf => ?_)
        · refine r_iconst (v := (-1)) C dX11_spell_98 ?_
          exact r_retI C hw dX11_spell_99 hf
        · refine lv_aload_n C.1.1 C.1.2.1 dX11_spell_89 rfl (lv_at hl 0 rfl) ?_
          refine r_getR (k := 50) C hw shM_0 ltM_0 cO11 rfl (by decide) tw5_194 rfl dX11_spell_90 ?_
          refine lv_iload_n C.1.1 C.1.2.1 dX11_spell_93 rfl (lv_at hl 2 rfl) ?_
          refine r_iald C hw shM_27 ltM_27 (Nat.le_of_ble_eq_true rfl) dX11_spell_94 hf (fun v94 hf => ?_)
          refine lv_goto (tgt := 99) C.1.1 C.1.2.1 dX11_spell_95 (by decide) ?_
          exact r_retI C hw dX11_spell_99 hf
      · refine lv_aload_n C.1.1 C.1.2.1 dX11_spell_68 rfl (lv_at hl 0 rfl) ?_
        refine r_getI (k := 51) C hw shM_0 ltM_0 cO11 rfl (by decide) tw5_195 rfl dX11_spell_69 hf (fun v69 hf => ?_)
        refine lv_goto (tgt := 99) C.1.1 C.1.2.1 dX11_spell_72 (by decide) ?_
        exact r_retI C hw dX11_spell_99 hf
    · refine r_iconst (v := (-1)) C dX11_spell_16 ?_
      exact r_retI C hw dX11_spell_17 hf
def f_X11_goSteps_130 (N : Nat) (x1 : Int) (S : S2) : Option (Int × S2) := aI S 7 5 x1 fun v135 => rI v135 S
def f_X11_goSteps_124 (k2 : Int → Int → Int → S2 → Option (Int × S2)) (N : Nat) (x1 : Int) (x2 : Int) (x3 : Int) (S : S2) : Option (Int × S2) := k2 x1 x2 (x3 + 1) S
def f_X11_goSteps_2 (k130 : Int → S2 → Option (Int × S2)) : Nat → Int → Int → Int → S2 → Option (Int × S2)
  | 0, _, _, _, _ => none
  | N + 1, x1, x2, x3, S => aI S 7 5 x1 fun v8 => cI x3 v8 (if v8 ≤ x3 then k130 x1 S else aI S 6 180 (3 * ((12 * x1) + x3)) fun v29 => aI S 6 180 ((3 * ((12 * x1) + x3)) + 1) fun v38 => aI S 6 180 ((3 * ((12 * x1) + x3)) + 2) fun v47 => bI (f_X11_whyNot N S v29 v38 v47) fun v48 S48 => cI v48 (-1) (if v48 = (-1) then cI x2 0 (if x2 = 0 then aI S48 6 180 (3 * ((12 * x1) + x3)) fun v101 => aI S48 6 180 ((3 * ((12 * x1) + x3)) + 1) fun v110 => aI S48 6 180 ((3 * ((12 * x1) + x3)) + 2) fun v119 => bI (f_X11_doNow N S48 v101 v110 v119) fun v120 S120 => (f_X11_goSteps_124 (f_X11_goSteps_2 k130 N) N) x1 x2 x3 S120 else aI S48 6 180 (3 * ((12 * x1) + x3)) fun v68 => aI S48 6 180 ((3 * ((12 * x1) + x3)) + 1) fun v77 => aI S48 6 180 ((3 * ((12 * x1) + x3)) + 2) fun v86 => bI (f_X11_act N S48 v68 v77 v86) fun v87 S87 => (f_X11_goSteps_124 (f_X11_goSteps_2 k130 N) N) x1 x2 x3 S87) else rI x3 S48))
def f_X11_goSteps (N : Nat) (S : S2) (a1 : Int) (a2 : Int) : Option (Int × S2) := (f_X11_goSteps_2 (f_X11_goSteps_130 N) N) a1 a2 0 S
abbrev rmX11_goSteps : Room := { frames := 7, cells := 0, slots := 0, locals := 167 }
theorem hd_X11_goSteps : yX11_goSteps.cls ≠ "java/lang/invoke/MethodHandle" ∧ yX11_goSteps.cls ≠ "java/lang/invoke/VarHandle" ∧ (parseMethodDescriptor yX11_goSteps.desc).map (fun d => d.parameters.length) = some 2 := by decide +kernel
set_option maxRecDepth 100000 in
set_option maxHeartbeats 4000000 in
theorem w_X11_goSteps_130 {p : Program} (l : Launch) {e : Env} {s : State} {m : MethodId} {args : Array Value} {below : List Frame} {meth : Method} {c : Code} {X : XT} (hinj : XInj X nM) (hZ : ZOK (Zm X)) (C : CX p s m args meth c cX11_goSteps 5 RX11 (some .int) X nM (Zm X)) (out : Int × S2) : ∀ (N : Nat), ∀ (x1 : Int) (S : S2) (H : Heap) (locs : List Loc) (ls : Array Slot), f_X11_goSteps_130 N x1 S = some out → WH X shM nM s S H locs → lv_has ls 5 [(0, .ref (X.2.2 0)), (1, .int (iz x1))] → W p l e rmX11_goSteps s m args below meth c H locs 0 0 (QI X shM nM s args below out) (F0 m 130 ls []) := by
  intro N x1 S H locs ls hf hw hl
  unfold f_X11_goSteps_130 at hf
  refine lv_aload_n C.1.1 C.1.2.1 dX11_goSteps_130 rfl (lv_at hl 0 rfl) ?_
  refine r_getR (k := 20) C hw shM_0 ltM_0 cO11 rfl (by decide) tw5_164 rfl dX11_goSteps_131 ?_
  refine lv_iload_n C.1.1 C.1.2.1 dX11_goSteps_134 rfl (lv_at hl 1 rfl) ?_
  refine r_iald C hw shM_7 ltM_7 (Nat.le_of_ble_eq_true rfl) dX11_goSteps_135 hf (fun v135 hf => ?_)
  exact r_retI C hw dX11_goSteps_136 hf
set_option maxRecDepth 100000 in
set_option maxHeartbeats 4000000 in
theorem w_X11_goSteps_124 {p : Program} (l : Launch) {e : Env} {s : State} {m : MethodId} {args : Array Value} {below : List Frame} {meth : Method} {c : Code} {X : XT} (hinj : XInj X nM) (hZ : ZOK (Zm X)) (C : CX p s m args meth c cX11_goSteps 5 RX11 (some .int) X nM (Zm X)) (out : Int × S2) (k2 : Int → Int → Int → S2 → Option (Int × S2)) (hk2 : ∀ (x1 : Int) (x2 : Int) (x3 : Int) (S : S2) (H : Heap) (locs : List Loc) (ls : Array Slot), k2 x1 x2 x3 S = some out → WH X shM nM s S H locs → lv_has ls 5 [(0, .ref (X.2.2 0)), (1, .int (iz x1)), (2, .int (iz x2)), (3, .int (iz x3))] → W p l e rmX11_goSteps s m args below meth c H locs 0 0 (QI X shM nM s args below out) (F0 m 2 ls [])) : ∀ (N : Nat), ∀ (x1 : Int) (x2 : Int) (x3 : Int) (S : S2) (H : Heap) (locs : List Loc) (ls : Array Slot), f_X11_goSteps_124 k2 N x1 x2 x3 S = some out → WH X shM nM s S H locs → lv_has ls 5 [(0, .ref (X.2.2 0)), (1, .int (iz x1)), (2, .int (iz x2)), (3, .int (iz x3))] → W p l e rmX11_goSteps s m args below meth c H locs 0 0 (QI X shM nM s args below out) (F0 m 124 ls []) := by
  intro N x1 x2 x3 S H locs ls hf hw hl
  unfold f_X11_goSteps_124 at hf
  refine lv_iinc (v := iz (x3 + 1)) (lv' := [(3, .int (iz (x3 + 1))), (0, .ref (X.2.2 0)), (1, .int (iz x1)), (2, .int (iz x2))]) C.1.1 C.1.2.1 dX11_goSteps_124 hl (k := 3) rfl (iz_add _ _) (by decide) rfl (fun ls hl => ?_)
  refine lv_goto (tgt := 2) C.1.1 C.1.2.1 dX11_goSteps_127 (by decide) ?_
  exact hk2 x1 x2 (x3 + 1) S H locs ls hf hw (lv_sub hl [1, 2, 3, 0] rfl)
set_option maxRecDepth 100000 in
set_option maxHeartbeats 4000000 in
theorem w_X11_goSteps_2 {p : Program} (l : Launch) {e : Env} {s : State} {m : MethodId} {args : Array Value} {below : List Frame} {meth : Method} {c : Code} {X : XT} (hinj : XInj X nM) (hZ : ZOK (Zm X)) (C : CX p s m args meth c cX11_goSteps 5 RX11 (some .int) X nM (Zm X)) (out : Int × S2) (k130 : Int → S2 → Option (Int × S2)) (hk130 : ∀ (x1 : Int) (S : S2) (H : Heap) (locs : List Loc) (ls : Array Slot), k130 x1 S = some out → WH X shM nM s S H locs → lv_has ls 5 [(0, .ref (X.2.2 0)), (1, .int (iz x1))] → W p l e rmX11_goSteps s m args below meth c H locs 0 0 (QI X shM nM s args below out) (F0 m 130 ls [])) : ∀ (N : Nat), ∀ (x1 : Int) (x2 : Int) (x3 : Int) (S : S2) (H : Heap) (locs : List Loc) (ls : Array Slot), f_X11_goSteps_2 k130 N x1 x2 x3 S = some out → WH X shM nM s S H locs → lv_has ls 5 [(0, .ref (X.2.2 0)), (1, .int (iz x1)), (2, .int (iz x2)), (3, .int (iz x3))] → W p l e rmX11_goSteps s m args below meth c H locs 0 0 (QI X shM nM s args below out) (F0 m 2 ls []) := by
  intro N
  induction N with
  | zero => intro x1 x2 x3 S H locs ls hf hw hl; cases hf
  | succ N ih =>
    intro x1 x2 x3 S H locs ls hf hw hl
    rw [f_X11_goSteps_2.eq_2] at hf
    refine lv_iload_n C.1.1 C.1.2.1 dX11_goSteps_2 rfl (lv_at hl 3 rfl) ?_
    refine lv_aload_n C.1.1 C.1.2.1 dX11_goSteps_3 rfl (lv_at hl 0 rfl) ?_
    refine r_getR (k := 20) C hw shM_0 ltM_0 cO11 rfl (by decide) tw5_164 rfl dX11_goSteps_4 ?_
    refine lv_iload_n C.1.1 C.1.2.1 dX11_goSteps_7 rfl (lv_at hl 1 rfl) ?_
    refine r_iald C hw shM_7 ltM_7 (Nat.le_of_ble_eq_true rfl) dX11_goSteps_8 hf (fun v8 hf => ?_)
    refine r_icmp_ge C (tgt := 130) dX11_goSteps_9 (by decide) hf (fun hf => ?_) (fun hf => ?_)
    · exact hk130 x1 S H locs ls hf hw (lv_sub hl [0, 1] rfl)
    · refine r_iconst (v := 3) C dX11_goSteps_12 ?_
      refine r_bipush (v := 12) C dX11_goSteps_13 (by decide) ?_
      refine lv_iload_n C.1.1 C.1.2.1 dX11_goSteps_15 rfl (lv_at hl 1 rfl) ?_
      refine r_imul C dX11_goSteps_16 ?_
      refine lv_iload_n C.1.1 C.1.2.1 dX11_goSteps_17 rfl (lv_at hl 3 rfl) ?_
      refine r_iadd C dX11_goSteps_18 ?_
      refine r_imul C dX11_goSteps_19 ?_
      refine lv_istore (lv' := [(4, .int (iz (3 * ((12 * x1) + x3)))), (0, .ref (X.2.2 0)), (1, .int (iz x1)), (2, .int (iz x2)), (3, .int (iz x3))]) C.1.1 C.1.2.1 dX11_goSteps_20 hl (by decide) rfl (fun ls hl => ?_)
      refine lv_aload_n C.1.1 C.1.2.1 dX11_goSteps_22 rfl (lv_at hl 1 rfl) ?_
      refine lv_aload_n C.1.1 C.1.2.1 dX11_goSteps_23 rfl (lv_at hl 1 rfl) ?_
      refine r_getR (k := 19) C hw shM_0 ltM_0 cO11 rfl (by decide) tw5_163 rfl dX11_goSteps_24 ?_
      refine lv_iload C.1.1 C.1.2.1 dX11_goSteps_27 (lv_at hl 0 rfl) ?_
      refine r_iald C hw shM_6 ltM_6 (Nat.le_of_ble_eq_true rfl) dX11_goSteps_29 hf (fun v29 hf => ?_)
      refine lv_aload_n C.1.1 C.1.2.1 dX11_goSteps_30 rfl (lv_at hl 1 rfl) ?_
      refine r_getR (k := 19) C hw shM_0 ltM_0 cO11 rfl (by decide) tw5_163 rfl dX11_goSteps_31 ?_
      refine lv_iload C.1.1 C.1.2.1 dX11_goSteps_34 (lv_at hl 0 rfl) ?_
      refine r_iconst (v := 1) C dX11_goSteps_36 ?_
      refine r_iadd C dX11_goSteps_37 ?_
      refine r_iald C hw shM_6 ltM_6 (Nat.le_of_ble_eq_true rfl) dX11_goSteps_38 hf (fun v38 hf => ?_)
      refine lv_aload_n C.1.1 C.1.2.1 dX11_goSteps_39 rfl (lv_at hl 1 rfl) ?_
      refine r_getR (k := 19) C hw shM_0 ltM_0 cO11 rfl (by decide) tw5_163 rfl dX11_goSteps_40 ?_
      refine lv_iload C.1.1 C.1.2.1 dX11_goSteps_43 (lv_at hl 0 rfl) ?_
      refine r_iconst (v := 2) C dX11_goSteps_45 ?_
      refine r_iadd C dX11_goSteps_46 ?_
      refine r_iald C hw shM_6 ltM_6 (Nat.le_of_ble_eq_true rfl) dX11_goSteps_47 hf (fun v47 hf => ?_)
      refine r_callI (As := [.int (iz v29), .int (iz v38), .int (iz v47)]) (rest := []) (rm := rmX11_whyNot) C hw shM_0 ltM_0 cO11 tw6_204 tw6_206 tp_62 tw1_12 tw6_207 hd_X11_whyNot rfl ⟨⟨rfl, rfl⟩, Nat.le_of_ble_eq_true rfl, Nat.le_of_ble_eq_true rfl⟩ hl.1 rfl (Nat.le_of_ble_eq_true rfl) dX11_goSteps_48 hf (fun o ho => c_X11_whyNot l X hinj hZ N S v29 v38 v47 o ho) (fun v48 S48 H locs hf hw => ?_)
      refine r_iconst (v := (-1)) C dX11_goSteps_51 ?_
      refine r_icmp_eq C (tgt := 57) dX11_goSteps_52 (by decide) hf (fun hf => ?_) (fun hf => ?_)
      · refine lv_iload_n C.1.1 C.1.2.1 dX11_goSteps_57 rfl (lv_at hl 3 rfl) ?_
        refine r_if_eq C (tgt := 94) dX11_goSteps_58 (by decide) hf (fun hf => ?_) (fun hf => ?_)
        · refine lv_aload_n C.1.1 C.1.2.1 dX11_goSteps_94 rfl (lv_at hl 1 rfl) ?_
          refine lv_aload_n C.1.1 C.1.2.1 dX11_goSteps_95 rfl (lv_at hl 1 rfl) ?_
          refine r_getR (k := 19) C hw shM_0 ltM_0 cO11 rfl (by decide) tw5_163 rfl dX11_goSteps_96 ?_
          refine lv_iload C.1.1 C.1.2.1 dX11_goSteps_99 (lv_at hl 0 rfl) ?_
          refine r_iald C hw shM_6 ltM_6 (Nat.le_of_ble_eq_true rfl) dX11_goSteps_101 hf (fun v101 hf => ?_)
          refine lv_aload_n C.1.1 C.1.2.1 dX11_goSteps_102 rfl (lv_at hl 1 rfl) ?_
          refine r_getR (k := 19) C hw shM_0 ltM_0 cO11 rfl (by decide) tw5_163 rfl dX11_goSteps_103 ?_
          refine lv_iload C.1.1 C.1.2.1 dX11_goSteps_106 (lv_at hl 0 rfl) ?_
          refine r_iconst (v := 1) C dX11_goSteps_108 ?_
          refine r_iadd C dX11_goSteps_109 ?_
          refine r_iald C hw shM_6 ltM_6 (Nat.le_of_ble_eq_true rfl) dX11_goSteps_110 hf (fun v110 hf => ?_)
          refine lv_aload_n C.1.1 C.1.2.1 dX11_goSteps_111 rfl (lv_at hl 1 rfl) ?_
          refine r_getR (k := 19) C hw shM_0 ltM_0 cO11 rfl (by decide) tw5_163 rfl dX11_goSteps_112 ?_
          refine lv_iload C.1.1 C.1.2.1 dX11_goSteps_115 (lv_at hl 0 rfl) ?_
          refine r_iconst (v := 2) C dX11_goSteps_117 ?_
          refine r_iadd C dX11_goSteps_118 ?_
          refine r_iald C hw shM_6 ltM_6 (Nat.le_of_ble_eq_true rfl) dX11_goSteps_119 hf (fun v119 hf => ?_)
          refine r_callI (As := [.int (iz v101), .int (iz v110), .int (iz v119)]) (rest := []) (rm := rmX11_doNow) C hw shM_0 ltM_0 cO11 tw6_220 tw6_222 tp_66 tw1_12 tw6_223 hd_X11_doNow rfl ⟨⟨rfl, rfl⟩, Nat.le_of_ble_eq_true rfl, Nat.le_of_ble_eq_true rfl⟩ hl.1 rfl (Nat.le_of_ble_eq_true rfl) dX11_goSteps_120 hf (fun o ho => c_X11_doNow l X hinj hZ N S48 v101 v110 v119 o ho) (fun v120 S120 H locs hf hw => ?_)
          refine lv_pop C.1.1 C.1.2.1 dX11_goSteps_123 rfl ?_
          exact (w_X11_goSteps_124 l hinj hZ C out (f_X11_goSteps_2 k130 N) ih N) x1 x2 x3 S120 H locs ls hf hw (lv_sub hl [1, 2, 3, 4] rfl)
        · refine lv_aload_n C.1.1 C.1.2.1 dX11_goSteps_61 rfl (lv_at hl 1 rfl) ?_
          refine lv_aload_n C.1.1 C.1.2.1 dX11_goSteps_62 rfl (lv_at hl 1 rfl) ?_
          refine r_getR (k := 19) C hw shM_0 ltM_0 cO11 rfl (by decide) tw5_163 rfl dX11_goSteps_63 ?_
          refine lv_iload C.1.1 C.1.2.1 dX11_goSteps_66 (lv_at hl 0 rfl) ?_
          refine r_iald C hw shM_6 ltM_6 (Nat.le_of_ble_eq_true rfl) dX11_goSteps_68 hf (fun v68 hf => ?_)
          refine lv_aload_n C.1.1 C.1.2.1 dX11_goSteps_69 rfl (lv_at hl 1 rfl) ?_
          refine r_getR (k := 19) C hw shM_0 ltM_0 cO11 rfl (by decide) tw5_163 rfl dX11_goSteps_70 ?_
          refine lv_iload C.1.1 C.1.2.1 dX11_goSteps_73 (lv_at hl 0 rfl) ?_
          refine r_iconst (v := 1) C dX11_goSteps_75 ?_
          refine r_iadd C dX11_goSteps_76 ?_
          refine r_iald C hw shM_6 ltM_6 (Nat.le_of_ble_eq_true rfl) dX11_goSteps_77 hf (fun v77 hf => ?_)
          refine lv_aload_n C.1.1 C.1.2.1 dX11_goSteps_78 rfl (lv_at hl 1 rfl) ?_
          refine r_getR (k := 19) C hw shM_0 ltM_0 cO11 rfl (by decide) tw5_163 rfl dX11_goSteps_79 ?_
          refine lv_iload C.1.1 C.1.2.1 dX11_goSteps_82 (lv_at hl 0 rfl) ?_
          refine r_iconst (v := 2) C dX11_goSteps_84 ?_
          refine r_iadd C dX11_goSteps_85 ?_
          refine r_iald C hw shM_6 ltM_6 (Nat.le_of_ble_eq_true rfl) dX11_goSteps_86 hf (fun v86 hf => ?_)
          refine r_callI (As := [.int (iz v68), .int (iz v77), .int (iz v86)]) (rest := []) (rm := rmX11_act) C hw shM_0 ltM_0 cO11 tw6_212 tw6_214 tp_64 tw1_12 tw6_215 hd_X11_act rfl ⟨⟨rfl, rfl⟩, Nat.le_of_ble_eq_true rfl, Nat.le_of_ble_eq_true rfl⟩ hl.1 rfl (Nat.le_of_ble_eq_true rfl) dX11_goSteps_87 hf (fun o ho => c_X11_act l X hinj hZ N S48 v68 v77 v86 o ho) (fun v87 S87 H locs hf hw => ?_)
          refine lv_pop C.1.1 C.1.2.1 dX11_goSteps_90 rfl ?_
          refine lv_goto (tgt := 124) C.1.1 C.1.2.1 dX11_goSteps_91 (by decide) ?_
          exact (w_X11_goSteps_124 l hinj hZ C out (f_X11_goSteps_2 k130 N) ih N) x1 x2 x3 S87 H locs ls hf hw (lv_sub hl [1, 2, 3, 4] rfl)
      · refine lv_iload_n C.1.1 C.1.2.1 dX11_goSteps_55 rfl (lv_at hl 4 rfl) ?_
        exact r_retI C hw dX11_goSteps_56 hf
set_option maxRecDepth 100000 in
set_option maxHeartbeats 4000000 in
theorem c_X11_goSteps (l : Launch) (X : XT) (hinj : XInj X nM) (hZ : ZOK (Zm X)) (N : Nat) (S : S2) (a1 : Int) (a2 : Int) (out : Int × S2) (hf : f_X11_goSteps N S a1 a2 = some out) : MI l X shM nM (Zm X) yX11_goSteps cX11_goSteps 5 (some .int) rmX11_goSteps [.ref (X.2.2 0), .int (iz a1), .int (iz a2)] S out := by
  refine met_I (own := RX11) (by decide) rfl hinj hZ (Nat.le_of_ble_eq_true rfl) (fun p e s m args below meth c C ls H locs hw hl => ?_)
  unfold f_X11_goSteps at hf
  have hl : lv_has ls 5 [(0, .ref (X.2.2 0)), (1, .int (iz a1)), (2, .int (iz a2))] := hl
  refine r_iconst (v := 0) C dX11_goSteps_0 ?_
  refine lv_istore_n (lv' := [(3, .int (iz 0)), (0, .ref (X.2.2 0)), (1, .int (iz a1)), (2, .int (iz a2))]) C.1.1 C.1.2.1 dX11_goSteps_1 rfl hl (by decide) rfl (fun ls hl => ?_)
  exact (w_X11_goSteps_2 l hinj hZ C out (f_X11_goSteps_130 N) (w_X11_goSteps_130 l hinj hZ C out N) N) a1 a2 0 S H locs ls hf hw (lv_sub hl [1, 2, 3, 0] rfl)
def f_X11_run (N : Nat) (S : S2) (a1 : Int) (a2 : Int) : Option (Int × S2) := bI (f_X11_isScript N S a1) fun v2 S2 => cI v2 0 (if v2 = 0 then rI (-1000000) S2 else gI S2 0 29 fun v9 => cI v9 0 (if v9 = 0 then rI (-1000000) S2 else bI (f_X11_in N S2 a2 0 1) fun v18 S18 => cI v18 0 (if v18 = 0 then rI (-1000000) S18 else bV (f_X11_putAside N S18) fun S28 => bI (f_X11_goSteps N S28 a1 0) fun v34 S34 => bI (f_X11_keptNow N S34) fun v39 S39 => bV (f_X11_bringBack N S39) fun S45 => cI a2 1 (if a2 = 1 then rI v39 S45 else aI S45 7 5 a1 fun v64 => cI v34 v64 (if v34 = v64 then rI (-1) S45 else rI v34 S45)))))
abbrev rmX11_run : Room := { frames := 8, cells := 0, slots := 0, locals := 191 }
theorem hd_X11_run : yX11_run.cls ≠ "java/lang/invoke/MethodHandle" ∧ yX11_run.cls ≠ "java/lang/invoke/VarHandle" ∧ (parseMethodDescriptor yX11_run.desc).map (fun d => d.parameters.length) = some 2 := by decide +kernel
set_option maxRecDepth 100000 in
set_option maxHeartbeats 4000000 in
theorem c_X11_run (l : Launch) (X : XT) (hinj : XInj X nM) (hZ : ZOK (Zm X)) (N : Nat) (S : S2) (a1 : Int) (a2 : Int) (out : Int × S2) (hf : f_X11_run N S a1 a2 = some out) : MI l X shM nM (Zm X) yX11_run cX11_run 5 (some .int) rmX11_run [.ref (X.2.2 0), .int (iz a1), .int (iz a2)] S out := by
  refine met_I (own := RX11) (by decide) rfl hinj hZ (Nat.le_of_ble_eq_true rfl) (fun p e s m args below meth c C ls H locs hw hl => ?_)
  unfold f_X11_run at hf
  have hl : lv_has ls 5 [(0, .ref (X.2.2 0)), (1, .int (iz a1)), (2, .int (iz a2))] := hl
  refine lv_aload_n C.1.1 C.1.2.1 dX11_run_0 rfl (lv_at hl 0 rfl) ?_
  refine lv_iload_n C.1.1 C.1.2.1 dX11_run_1 rfl (lv_at hl 1 rfl) ?_
  refine r_callI (As := [.int (iz a1)]) (rest := []) (rm := rmX11_isScript) C hw shM_0 ltM_0 cO11 tw8_75 tw8_77 tp_114 tw1_12 tw8_78 hd_X11_isScript rfl ⟨⟨rfl, rfl⟩, Nat.le_of_ble_eq_true rfl, Nat.le_of_ble_eq_true rfl⟩ hl.1 rfl (Nat.le_of_ble_eq_true rfl) dX11_run_2 hf (fun o ho => c_X11_isScript l X hinj hZ N S a1 o ho) (fun v2 S2 H locs hf hw => ?_)
  refine r_if_eq C (tgt := 24) dX11_run_5 (by decide) hf (fun hf => ?_) (fun hf => ?_)
  · refine r_ldc (v := (-1000000)) C tw6_180 (by decide) dX11_run_24 ?_
    exact r_retI C hw dX11_run_26 hf
  · refine lv_aload_n C.1.1 C.1.2.1 dX11_run_8 rfl (lv_at hl 0 rfl) ?_
    refine r_getI (k := 29) C hw shM_0 ltM_0 cO11 rfl (by decide) tw5_173 rfl dX11_run_9 hf (fun v9 hf => ?_)
    refine r_if_eq C (tgt := 24) dX11_run_12 (by decide) hf (fun hf => ?_) (fun hf => ?_)
    · refine r_ldc (v := (-1000000)) C tw6_180 (by decide) dX11_run_24 ?_
      exact r_retI C hw dX11_run_26 hf
    · refine lv_iload_n C.1.1 C.1.2.1 dX11_run_15 rfl (lv_at hl 2 rfl) ?_
      refine r_iconst (v := 0) C dX11_run_16 ?_
      refine r_iconst (v := 1) C dX11_run_17 ?_
      refine r_scallI (As := [.int (iz a2), .int (iz 0), .int (iz 1)]) (rest := []) (rm := rmX11_in) C hw tw6_77 tw6_78 tw1_12 tw6_79 hd_X11_in rfl ⟨⟨rfl, rfl⟩, Nat.le_of_ble_eq_true rfl, Nat.le_of_ble_eq_true rfl⟩ hl.1 rfl (Nat.le_of_ble_eq_true rfl) dX11_run_18 hf (fun o ho => c_X11_in l X hinj hZ N S2 a2 0 1 o ho) (fun v18 S18 H locs hf hw => ?_)
      refine r_if_ne C (tgt := 27) dX11_run_21 (by decide) hf (fun hf => ?_) (fun hf => ?_)
      · refine lv_aload_n C.1.1 C.1.2.1 dX11_run_27 rfl (lv_at hl 0 rfl) ?_
        refine r_callV (As := []) (rest := []) (rm := rmX11_putAside) C hw shM_0 ltM_0 cO11 tw8_14 tw8_16 tp_107 tw1_12 tw8_17 hd_X11_putAside rfl ⟨⟨rfl, rfl⟩, Nat.le_of_ble_eq_true rfl, Nat.le_of_ble_eq_true rfl⟩ hl.1 rfl (Nat.le_of_ble_eq_true rfl) dX11_run_28 hf (fun o ho => c_X11_putAside l X hinj hZ N S18 o ho) (fun S28 H locs hf hw => ?_)
        refine lv_aload_n C.1.1 C.1.2.1 dX11_run_31 rfl (lv_at hl 0 rfl) ?_
        refine lv_iload_n C.1.1 C.1.2.1 dX11_run_32 rfl (lv_at hl 1 rfl) ?_
        refine r_iconst (v := 0) C dX11_run_33 ?_
        refine r_callI (As := [.int (iz a1), .int (iz 0)]) (rest := []) (rm := rmX11_goSteps) C hw shM_0 ltM_0 cO11 tw8_83 tw8_85 tp_115 tw1_12 tw8_86 hd_X11_goSteps rfl ⟨⟨rfl, rfl⟩, Nat.le_of_ble_eq_true rfl, Nat.le_of_ble_eq_true rfl⟩ hl.1 rfl (Nat.le_of_ble_eq_true rfl) dX11_run_34 hf (fun o ho => c_X11_goSteps l X hinj hZ N S28 a1 0 o ho) (fun v34 S34 H locs hf hw => ?_)
        refine lv_istore_n (lv' := [(3, .int (iz v34)), (0, .ref (X.2.2 0)), (1, .int (iz a1)), (2, .int (iz a2))]) C.1.1 C.1.2.1 dX11_run_37 rfl hl (by decide) rfl (fun ls hl => ?_)
        refine lv_aload_n C.1.1 C.1.2.1 dX11_run_38 rfl (lv_at hl 1 rfl) ?_
        refine r_callI (As := []) (rest := []) (rm := rmX11_keptNow) C hw shM_0 ltM_0 cO11 tw6_237 tw6_239 tp_69 tw1_12 tw7_0 hd_X11_keptNow rfl ⟨⟨rfl, rfl⟩, Nat.le_of_ble_eq_true rfl, Nat.le_of_ble_eq_true rfl⟩ hl.1 rfl (Nat.le_of_ble_eq_true rfl) dX11_run_39 hf (fun o ho => c_X11_keptNow l X hinj hZ N S34 o ho) (fun v39 S39 H locs hf hw => ?_)
        refine lv_istore (lv' := [(4, .int (iz v39)), (3, .int (iz v34)), (0, .ref (X.2.2 0)), (1, .int (iz a1)), (2, .int (iz a2))]) C.1.1 C.1.2.1 dX11_run_42 hl (by decide) rfl (fun ls hl => ?_)
        refine lv_aload_n C.1.1 C.1.2.1 dX11_run_44 rfl (lv_at hl 2 rfl) ?_
        refine r_callV (As := []) (rest := []) (rm := rmX11_bringBack) C hw shM_0 ltM_0 cO11 tw8_18 tw8_20 tp_108 tw1_12 tw8_21 hd_X11_bringBack rfl ⟨⟨rfl, rfl⟩, Nat.le_of_ble_eq_true rfl, Nat.le_of_ble_eq_true rfl⟩ hl.1 rfl (Nat.le_of_ble_eq_true rfl) dX11_run_45 hf (fun o ho => c_X11_bringBack l X hinj hZ N S39 o ho) (fun S45 H locs hf hw => ?_)
        refine lv_iload_n C.1.1 C.1.2.1 dX11_run_48 rfl (lv_at hl 4 rfl) ?_
        refine r_iconst (v := 1) C dX11_run_49 ?_
        refine r_icmp_ne C (tgt := 58) dX11_run_50 (by decide) hf (fun hf => ?_) (fun hf => ?_)
        · refine lv_iload_n C.1.1 C.1.2.1 dX11_run_58 rfl (lv_at hl 1 rfl) ?_
          refine lv_aload_n C.1.1 C.1.2.1 dX11_run_59 rfl (lv_at hl 2 rfl) ?_
          refine r_getR (k := 20) C hw shM_0 ltM_0 cO11 rfl (by decide) tw5_164 rfl dX11_run_60 ?_
          refine lv_iload_n C.1.1 C.1.2.1 dX11_run_63 rfl (lv_at hl 3 rfl) ?_
          refine r_iald C hw shM_7 ltM_7 (Nat.le_of_ble_eq_true rfl) dX11_run_64 hf (fun v64 hf => ?_)
          refine r_icmp_ne C (tgt := 72) dX11_run_65 (by decide) hf (fun hf => ?_) (fun hf => ?_)
          · refine lv_iload_n C.1.1 C.1.2.1 dX11_run_72 rfl (lv_at hl 1 rfl) ?_
            exact r_retI C hw dX11_run_73 hf
          · refine r_iconst (v := (-1)) C dX11_run_68 ?_
            refine lv_goto (tgt := 73) C.1.1 C.1.2.1 dX11_run_69 (by decide) ?_
            exact r_retI C hw dX11_run_73 hf
        · refine lv_iload C.1.1 C.1.2.1 dX11_run_53 (lv_at hl 0 rfl) ?_
          refine lv_goto (tgt := 73) C.1.1 C.1.2.1 dX11_run_55 (by decide) ?_
          exact r_retI C hw dX11_run_73 hf
      · refine r_ldc (v := (-1000000)) C tw6_180 (by decide) dX11_run_24 ?_
        exact r_retI C hw dX11_run_26 hf
def f_X11_perform (N : Nat) (S : S2) (a1 : Int) : Option (Int × S2) := bI (f_X11_isScript N S a1) fun v2 S2 => cI v2 0 (if v2 = 0 then rI (-1) S2 else gI S2 0 29 fun v9 => cI v9 0 (if v9 = 0 then rI (-1) S2 else bI (f_X11_goSteps N S2 a1 1) fun v18 S18 => rI v18 S18))
abbrev rmX11_perform : Room := { frames := 8, cells := 0, slots := 0, locals := 191 }
theorem hd_X11_perform : yX11_perform.cls ≠ "java/lang/invoke/MethodHandle" ∧ yX11_perform.cls ≠ "java/lang/invoke/VarHandle" ∧ (parseMethodDescriptor yX11_perform.desc).map (fun d => d.parameters.length) = some 1 := by decide +kernel
set_option maxRecDepth 100000 in
set_option maxHeartbeats 4000000 in
theorem c_X11_perform (l : Launch) (X : XT) (hinj : XInj X nM) (hZ : ZOK (Zm X)) (N : Nat) (S : S2) (a1 : Int) (out : Int × S2) (hf : f_X11_perform N S a1 = some out) : MI l X shM nM (Zm X) yX11_perform cX11_perform 2 (some .int) rmX11_perform [.ref (X.2.2 0), .int (iz a1)] S out := by
  refine met_I (own := RX11) (by decide) rfl hinj hZ (Nat.le_of_ble_eq_true rfl) (fun p e s m args below meth c C ls H locs hw hl => ?_)
  unfold f_X11_perform at hf
  have hl : lv_has ls 2 [(0, .ref (X.2.2 0)), (1, .int (iz a1))] := hl
  refine lv_aload_n C.1.1 C.1.2.1 dX11_perform_0 rfl (lv_at hl 0 rfl) ?_
  refine lv_iload_n C.1.1 C.1.2.1 dX11_perform_1 rfl (lv_at hl 1 rfl) ?_
  refine r_callI (As := [.int (iz a1)]) (rest := []) (rm := rmX11_isScript) C hw shM_0 ltM_0 cO11 tw8_75 tw8_77 tp_114 tw1_12 tw8_78 hd_X11_isScript rfl ⟨⟨rfl, rfl⟩, Nat.le_of_ble_eq_true rfl, Nat.le_of_ble_eq_true rfl⟩ hl.1 rfl (Nat.le_of_ble_eq_true rfl) dX11_perform_2 hf (fun o ho => c_X11_isScript l X hinj hZ N S a1 o ho) (fun v2 S2 H locs hf hw => ?_)
  refine r_if_eq C (tgt := 24) dX11_perform_5 (by decide) hf (fun hf => ?_) (fun hf => ?_)
  · refine r_iconst (v := (-1)) C dX11_perform_24 ?_
    exact r_retI C hw dX11_perform_25 hf
  · refine lv_aload_n C.1.1 C.1.2.1 dX11_perform_8 rfl (lv_at hl 0 rfl) ?_
    refine r_getI (k := 29) C hw shM_0 ltM_0 cO11 rfl (by decide) tw5_173 rfl dX11_perform_9 hf (fun v9 hf => ?_)
    refine r_if_eq C (tgt := 24) dX11_perform_12 (by decide) hf (fun hf => ?_) (fun hf => ?_)
    · refine r_iconst (v := (-1)) C dX11_perform_24 ?_
      exact r_retI C hw dX11_perform_25 hf
    · refine lv_aload_n C.1.1 C.1.2.1 dX11_perform_15 rfl (lv_at hl 0 rfl) ?_
      refine lv_iload_n C.1.1 C.1.2.1 dX11_perform_16 rfl (lv_at hl 1 rfl) ?_
      refine r_iconst (v := 1) C dX11_perform_17 ?_
      refine r_callI (As := [.int (iz a1), .int (iz 1)]) (rest := []) (rm := rmX11_goSteps) C hw shM_0 ltM_0 cO11 tw8_83 tw8_85 tp_115 tw1_12 tw8_86 hd_X11_goSteps rfl ⟨⟨rfl, rfl⟩, Nat.le_of_ble_eq_true rfl, Nat.le_of_ble_eq_true rfl⟩ hl.1 rfl (Nat.le_of_ble_eq_true rfl) dX11_perform_18 hf (fun o ho => c_X11_goSteps l X hinj hZ N S2 a1 1 o ho) (fun v18 S18 H locs hf hw => ?_)
      refine lv_goto (tgt := 25) C.1.1 C.1.2.1 dX11_perform_21 (by decide) ?_
      exact r_retI C hw dX11_perform_25 hf
def f_X11_most (N : Nat) (S : S2) (a1 : Int) : Option (Int × S2) := gI S 0 29 fun v1 => cI v1 0 (if v1 = 0 then rI (-1000000) S else bI (f_X11_in N S a1 0 7) fun v11 S11 => cI v11 0 (if v11 = 0 then rI (-1000000) S11 else bV (f_X11_finds N S11) fun S21 => cI a1 0 (if a1 = 4 then bI (f_X11_lastGeneration N S21) fun v57 S57 => rI v57 S57 else (if a1 = 5 then bI (f_X11_matched N S21) fun v62 S62 => rI v62 S62 else (if a1 = 6 then bI (f_X11_widest N S21) fun v67 S67 => rI v67 S67 else (if a1 = 7 then bI (f_X11_greatest N S21) fun v72 S72 => rI v72 S72 else bI (f_X11_added N S21 a1) fun v78 S78 => rI v78 S78))))))
abbrev rmX11_most : Room := { frames := 6, cells := 0, slots := 0, locals := 136 }
theorem hd_X11_most : yX11_most.cls ≠ "java/lang/invoke/MethodHandle" ∧ yX11_most.cls ≠ "java/lang/invoke/VarHandle" ∧ (parseMethodDescriptor yX11_most.desc).map (fun d => d.parameters.length) = some 1 := by decide +kernel
set_option maxRecDepth 100000 in
set_option maxHeartbeats 4000000 in
theorem c_X11_most (l : Launch) (X : XT) (hinj : XInj X nM) (hZ : ZOK (Zm X)) (N : Nat) (S : S2) (a1 : Int) (out : Int × S2) (hf : f_X11_most N S a1 = some out) : MI l X shM nM (Zm X) yX11_most cX11_most 2 (some .int) rmX11_most [.ref (X.2.2 0), .int (iz a1)] S out := by
  refine met_I (own := RX11) (by decide) rfl hinj hZ (Nat.le_of_ble_eq_true rfl) (fun p e s m args below meth c C ls H locs hw hl => ?_)
  unfold f_X11_most at hf
  have hl : lv_has ls 2 [(0, .ref (X.2.2 0)), (1, .int (iz a1))] := hl
  refine lv_aload_n C.1.1 C.1.2.1 dX11_most_0 rfl (lv_at hl 0 rfl) ?_
  refine r_getI (k := 29) C hw shM_0 ltM_0 cO11 rfl (by decide) tw5_173 rfl dX11_most_1 hf (fun v1 hf => ?_)
  refine r_if_eq C (tgt := 17) dX11_most_4 (by decide) hf (fun hf => ?_) (fun hf => ?_)
  · refine r_ldc (v := (-1000000)) C tw6_180 (by decide) dX11_most_17 ?_
    exact r_retI C hw dX11_most_19 hf
  · refine lv_iload_n C.1.1 C.1.2.1 dX11_most_7 rfl (lv_at hl 1 rfl) ?_
    refine r_iconst (v := 0) C dX11_most_8 ?_
    refine r_bipush (v := 7) C dX11_most_9 (by decide) ?_
    refine r_scallI (As := [.int (iz a1), .int (iz 0), .int (iz 7)]) (rest := []) (rm := rmX11_in) C hw tw6_77 tw6_78 tw1_12 tw6_79 hd_X11_in rfl ⟨⟨rfl, rfl⟩, Nat.le_of_ble_eq_true rfl, Nat.le_of_ble_eq_true rfl⟩ hl.1 rfl (Nat.le_of_ble_eq_true rfl) dX11_most_11 hf (fun o ho => c_X11_in l X hinj hZ N S a1 0 7 o ho) (fun v11 S11 H locs hf hw => ?_)
    refine r_if_ne C (tgt := 20) dX11_most_14 (by decide) hf (fun hf => ?_) (fun hf => ?_)
    · refine lv_aload_n C.1.1 C.1.2.1 dX11_most_20 rfl (lv_at hl 0 rfl) ?_
      refine r_callV (As := []) (rest := []) (rm := rmX11_finds) C hw shM_0 ltM_0 cO11 tw7_1 tw7_3 tp_70 tw1_12 tw7_4 hd_X11_finds rfl ⟨⟨rfl, rfl⟩, Nat.le_of_ble_eq_true rfl, Nat.le_of_ble_eq_true rfl⟩ hl.1 rfl (Nat.le_of_ble_eq_true rfl) dX11_most_21 hf (fun o ho => c_X11_finds l X hinj hZ N S11 o ho) (fun S21 H locs hf hw => ?_)
      refine lv_iload_n C.1.1 C.1.2.1 dX11_most_24 rfl (lv_at hl 1 rfl) ?_
      obtain ⟨⟨hsw, -⟩, hf⟩ := cI_some hf
      rcases ite_some hf with ⟨hc25_4, hf⟩ | ⟨hc25_4, hf⟩
      · refine lv_tableIn (tgt := 56) C.1.1 C.1.2.1 dX11_most_25 (by rw [hc25_4]; decide) (by rw [hc25_4]; decide) (by rw [hc25_4]; rfl) (by decide) ?_
        refine lv_aload_n C.1.1 C.1.2.1 dX11_most_56 rfl (lv_at hl 0 rfl) ?_
        refine r_callI (As := []) (rest := []) (rm := rmX11_lastGeneration) C hw shM_0 ltM_0 cO11 tw8_95 tw8_97 tp_116 tw1_12 tw8_98 hd_X11_lastGeneration rfl ⟨⟨rfl, rfl⟩, Nat.le_of_ble_eq_true rfl, Nat.le_of_ble_eq_true rfl⟩ hl.1 rfl (Nat.le_of_ble_eq_true rfl) dX11_most_57 hf (fun o ho => c_X11_lastGeneration l X hinj hZ N S21 o ho) (fun v57 S57 H locs hf hw => ?_)
        exact r_retI C hw dX11_most_60 hf
      · skip
        rcases ite_some hf with ⟨hc25_5, hf⟩ | ⟨hc25_5, hf⟩
        · refine lv_tableIn (tgt := 61) C.1.1 C.1.2.1 dX11_most_25 (by rw [hc25_5]; decide) (by rw [hc25_5]; decide) (by rw [hc25_5]; rfl) (by decide) ?_
          refine lv_aload_n C.1.1 C.1.2.1 dX11_most_61 rfl (lv_at hl 0 rfl) ?_
          refine r_callI (As := []) (rest := []) (rm := rmX11_matched) C hw shM_0 ltM_0 cO11 tw8_30 tw8_32 tp_109 tw1_12 tw8_33 hd_X11_matched rfl ⟨⟨rfl, rfl⟩, Nat.le_of_ble_eq_true rfl, Nat.le_of_ble_eq_true rfl⟩ hl.1 rfl (Nat.le_of_ble_eq_true rfl) dX11_most_62 hf (fun o ho => c_X11_matched l X hinj hZ N S21 o ho) (fun v62 S62 H locs hf hw => ?_)
          exact r_retI C hw dX11_most_65 hf
        · skip
          rcases ite_some hf with ⟨hc25_6, hf⟩ | ⟨hc25_6, hf⟩
          · refine lv_tableIn (tgt := 66) C.1.1 C.1.2.1 dX11_most_25 (by rw [hc25_6]; decide) (by rw [hc25_6]; decide) (by rw [hc25_6]; rfl) (by decide) ?_
            refine lv_aload_n C.1.1 C.1.2.1 dX11_most_66 rfl (lv_at hl 0 rfl) ?_
            refine r_callI (As := []) (rest := []) (rm := rmX11_widest) C hw shM_0 ltM_0 cO11 tw8_99 tw8_101 tp_117 tw1_12 tw8_102 hd_X11_widest rfl ⟨⟨rfl, rfl⟩, Nat.le_of_ble_eq_true rfl, Nat.le_of_ble_eq_true rfl⟩ hl.1 rfl (Nat.le_of_ble_eq_true rfl) dX11_most_67 hf (fun o ho => c_X11_widest l X hinj hZ N S21 o ho) (fun v67 S67 H locs hf hw => ?_)
            exact r_retI C hw dX11_most_70 hf
          · skip
            rcases ite_some hf with ⟨hc25_7, hf⟩ | ⟨hc25_7, hf⟩
            · refine lv_tableIn (tgt := 71) C.1.1 C.1.2.1 dX11_most_25 (by rw [hc25_7]; decide) (by rw [hc25_7]; decide) (by rw [hc25_7]; rfl) (by decide) ?_
              refine lv_aload_n C.1.1 C.1.2.1 dX11_most_71 rfl (lv_at hl 0 rfl) ?_
              refine r_callI (As := []) (rest := []) (rm := rmX11_greatest) C hw shM_0 ltM_0 cO11 tw7_72 tw7_74 tp_87 tw1_12 tw7_75 hd_X11_greatest rfl ⟨⟨rfl, rfl⟩, Nat.le_of_ble_eq_true rfl, Nat.le_of_ble_eq_true rfl⟩ hl.1 rfl (Nat.le_of_ble_eq_true rfl) dX11_most_72 hf (fun o ho => c_X11_greatest l X hinj hZ N S21 o ho) (fun v72 S72 H locs hf hw => ?_)
              exact r_retI C hw dX11_most_75 hf
            · skip
              refine lv_tableOut (tgt := 76) C.1.1 C.1.2.1 dX11_most_25 (by rw [sw_in hsw]; omega) (by decide) ?_
              refine lv_aload_n C.1.1 C.1.2.1 dX11_most_76 rfl (lv_at hl 0 rfl) ?_
              refine lv_iload_n C.1.1 C.1.2.1 dX11_most_77 rfl (lv_at hl 1 rfl) ?_
              refine r_callI (As := [.int (iz a1)]) (rest := []) (rm := rmX11_added) C hw shM_0 ltM_0 cO11 tw8_103 tw8_105 tp_118 tw1_12 tw8_106 hd_X11_added rfl ⟨⟨rfl, rfl⟩, Nat.le_of_ble_eq_true rfl, Nat.le_of_ble_eq_true rfl⟩ hl.1 rfl (Nat.le_of_ble_eq_true rfl) dX11_most_78 hf (fun o ho => c_X11_added l X hinj hZ N S21 a1 o ho) (fun v78 S78 H locs hf hw => ?_)
              exact r_retI C hw dX11_most_81 hf
    · refine r_ldc (v := (-1000000)) C tw6_180 (by decide) dX11_most_17 ?_
      exact r_retI C hw dX11_most_19 hf
