def f_X6_isWord_15 (c0 : Nat) (w0 : Nat) : Nat → Int → S2 → Option (Int × S2)
  | 0, _, _ => none
  | N + 1, x2, S => cI x2 (sLn w0) (if (sLn w0) ≤ x2 then rZ 1 S else sAt w0 x2 fun v25 => gI S c0 4 fun v33 => bI (f_X9_byteAt N S (c0 + 1) (v33 + x2)) fun v38 S38 => cI v25 v38 (if v25 = v38 then (f_X6_isWord_15 c0 w0 N) (x2 + 1) S38 else rZ 0 S38))
def f_X6_isWord (N : Nat) (S : S2) (c0 : Nat) (w0 : Nat) : Option (Int × S2) := gI S c0 5 fun v5 => cI (sLn w0) v5 (if (sLn w0) = v5 then (f_X6_isWord_15 c0 w0 N) 0 S else rZ 0 S)
abbrev rmX6_isWord : Room := { frames := 4, cells := 0, slots := 0, locals := 85 }
theorem hd_X6_isWord : yX6_isWord.cls ≠ "java/lang/invoke/MethodHandle" ∧ yX6_isWord.cls ≠ "java/lang/invoke/VarHandle" ∧ (parseMethodDescriptor yX6_isWord.desc).map (fun d => d.parameters.length) = some 1 := by decide +kernel
set_option maxRecDepth 100000 in
set_option maxHeartbeats 4000000 in
theorem w_X6_isWord_15 {p : Program} (l : Launch) {e : Env} {s : State} {m : MethodId} {args : Array Value} {below : List Frame} {meth : Method} {c : Code} {X : XT} (hinj : XInj X nC) (hZ : ZOK (Zc X)) (C : CX p s m args meth c cX6_isWord 3 RX6 (some .boolean) X nC (Zc X)) (out : Int × S2) (c0 : Nat) (w0 : Nat) (i0 : Is6 c0) (iw0 : w0 < 13) : ∀ (N : Nat), ∀ (x2 : Int) (S : S2) (H : Heap) (locs : List Loc) (ls : Array Slot), f_X6_isWord_15 c0 w0 N x2 S = some out → WH X shC nC s S H locs → lv_has ls 3 [(0, .ref (X.2.2 c0)), (1, .ref (X.2.2 (1000 + w0))), (2, .int (iz x2))] → W p l e rmX6_isWord s m args below meth c H locs 0 0 (QI X shC nC s args below out) (F0 m 15 ls []) := by
  intro N
  induction N with
  | zero => intro x2 S H locs ls hf hw hl; cases hf
  | succ N ih =>
    intro x2 S H locs ls hf hw hl
    rw [f_X6_isWord_15.eq_2] at hf
    refine lv_iload_n C.1.1 C.1.2.1 dX6_isWord_15 rfl (lv_at hl 2 rfl) ?_
    refine lv_aload_n C.1.1 C.1.2.1 dX6_isWord_16 rfl (lv_at hl 1 rfl) ?_
    refine r_sLen C hw hinj hZ iw0 hl.1 (Nat.le_of_ble_eq_true rfl) (Nat.le_of_ble_eq_true rfl) (Nat.le_of_ble_eq_true rfl) dX6_isWord_17 (fun H locs hw => ?_)
    refine r_icmp_ge C (tgt := 52) dX6_isWord_20 (by decide) hf (fun hf => ?_) (fun hf => ?_)
    · refine r_iconst (v := 1) C dX6_isWord_52 ?_
      exact r_retZ C hw dX6_isWord_53 hf
    · refine lv_aload_n C.1.1 C.1.2.1 dX6_isWord_23 rfl (lv_at hl 1 rfl) ?_
      refine lv_iload_n C.1.1 C.1.2.1 dX6_isWord_24 rfl (lv_at hl 2 rfl) ?_
      refine r_sAt C hw hinj hZ iw0 hl.1 (Nat.le_of_ble_eq_true rfl) (Nat.le_of_ble_eq_true rfl) (Nat.le_of_ble_eq_true rfl) dX6_isWord_25 hf (fun v25 H locs hf hw => ?_)
      refine lv_aload_n C.1.1 C.1.2.1 dX6_isWord_28 rfl (lv_at hl 0 rfl) ?_
      refine r_getR (k := 0) C hw (is6_s i0) (is6_l i0) cO6 rfl (by decide) tw1_53 rfl dX6_isWord_29 ?_
      refine lv_aload_n C.1.1 C.1.2.1 dX6_isWord_32 rfl (lv_at hl 0 rfl) ?_
      refine r_getI (k := 4) C hw (is6_s i0) (is6_l i0) cO6 rfl (by decide) tw1_58 rfl dX6_isWord_33 hf (fun v33 hf => ?_)
      refine lv_iload_n C.1.1 C.1.2.1 dX6_isWord_36 rfl (lv_at hl 2 rfl) ?_
      refine r_iadd C dX6_isWord_37 ?_
      refine r_callI (As := [.int (iz (v33 + x2))]) (rest := [.int (iz v25)]) (rm := rmX9_byteAt) C hw (is9_s (is6_o1 i0)) (is9_l (is6_o1 i0)) cO9 tw2_143 tw2_144 tw2_145 tw1_3 tw2_146 hd_X9_byteAt rfl ⟨⟨rfl, rfl⟩, Nat.le_of_ble_eq_true rfl, Nat.le_of_ble_eq_true rfl⟩ hl.1 rfl (Nat.le_of_ble_eq_true rfl) dX6_isWord_38 hf (fun o ho => c_X9_byteAt l X hinj hZ N S (c0 + 1) (v33 + x2) (is6_o1 i0) o ho) (fun v38 S38 H locs hf hw => ?_)
      refine r_icmp_eq C (tgt := 46) dX6_isWord_41 (by decide) hf (fun hf => ?_) (fun hf => ?_)
      · refine lv_iinc (v := iz (x2 + 1)) (lv' := [(2, .int (iz (x2 + 1))), (0, .ref (X.2.2 c0)), (1, .ref (X.2.2 (1000 + w0)))]) C.1.1 C.1.2.1 dX6_isWord_46 hl (k := 2) rfl (iz_add _ _) (by decide) rfl (fun ls hl => ?_)
        refine lv_goto (tgt := 15) C.1.1 C.1.2.1 dX6_isWord_49 (by decide) ?_
        exact ih (x2 + 1) S38 H locs ls hf hw (lv_sub hl [1, 2, 0] rfl)
      · refine r_iconst (v := 0) C dX6_isWord_44 ?_
        exact r_retZ C hw dX6_isWord_45 hf
set_option maxRecDepth 100000 in
set_option maxHeartbeats 4000000 in
theorem c_X6_isWord (l : Launch) (X : XT) (hinj : XInj X nC) (hZ : ZOK (Zc X)) (N : Nat) (S : S2) (c0 : Nat) (w0 : Nat) (i0 : Is6 c0) (iw0 : w0 < 13) (out : Int × S2) (hf : f_X6_isWord N S c0 w0 = some out) : MI l X shC nC (Zc X) yX6_isWord cX6_isWord 3 (some .boolean) rmX6_isWord [.ref (X.2.2 c0), .ref (X.2.2 (1000 + w0))] S out := by
  refine met_I (own := RX6) (by decide) rfl hinj hZ (Nat.le_of_ble_eq_true rfl) (fun p e s m args below meth c C ls H locs hw hl => ?_)
  unfold f_X6_isWord at hf
  have hl : lv_has ls 3 [(0, .ref (X.2.2 c0)), (1, .ref (X.2.2 (1000 + w0)))] := hl
  refine lv_aload_n C.1.1 C.1.2.1 dX6_isWord_0 rfl (lv_at hl 1 rfl) ?_
  refine r_sLen C hw hinj hZ iw0 hl.1 (Nat.le_of_ble_eq_true rfl) (Nat.le_of_ble_eq_true rfl) (Nat.le_of_ble_eq_true rfl) dX6_isWord_1 (fun H locs hw => ?_)
  refine lv_aload_n C.1.1 C.1.2.1 dX6_isWord_4 rfl (lv_at hl 0 rfl) ?_
  refine r_getI (k := 5) C hw (is6_s i0) (is6_l i0) cO6 rfl (by decide) tw1_59 rfl dX6_isWord_5 hf (fun v5 hf => ?_)
  refine r_icmp_eq C (tgt := 13) dX6_isWord_8 (by decide) hf (fun hf => ?_) (fun hf => ?_)
  · refine r_iconst (v := 0) C dX6_isWord_13 ?_
    refine lv_istore_n (lv' := [(2, .int (iz 0)), (0, .ref (X.2.2 c0)), (1, .ref (X.2.2 (1000 + w0)))]) C.1.1 C.1.2.1 dX6_isWord_14 rfl hl (by decide) rfl (fun ls hl => ?_)
    exact (w_X6_isWord_15 l hinj hZ C out c0 w0 i0 iw0 N) 0 S H locs ls hf hw (lv_sub hl [1, 2, 0] rfl)
  · refine r_iconst (v := 0) C dX6_isWord_11 ?_
    exact r_retZ C hw dX6_isWord_12 hf
def f_X6_sortTold_2 (c0 : Nat) : Nat → Int → S2 → Option (Int × S2)
  | 0, _, _ => none
  | N + 1, x1, S => cI x1 10 (if 10 ≤ x1 then rI (-1) S else bV (f_X7_wordOf N S x1) fun S10 => bI (f_X6_isWord N S10 c0 (wordIx x1)) fun v13 S13 => cI v13 0 (if v13 = 0 then (f_X6_sortTold_2 c0 N) (x1 + 1) S13 else rI x1 S13))
def f_X6_sortTold (N : Nat) (S : S2) (c0 : Nat) : Option (Int × S2) := (f_X6_sortTold_2 c0 N) 0 S
abbrev rmX6_sortTold : Room := { frames := 5, cells := 0, slots := 0, locals := 107 }
theorem hd_X6_sortTold : yX6_sortTold.cls ≠ "java/lang/invoke/MethodHandle" ∧ yX6_sortTold.cls ≠ "java/lang/invoke/VarHandle" ∧ (parseMethodDescriptor yX6_sortTold.desc).map (fun d => d.parameters.length) = some 0 := by decide +kernel
set_option maxRecDepth 100000 in
set_option maxHeartbeats 4000000 in
theorem w_X6_sortTold_2 {p : Program} (l : Launch) {e : Env} {s : State} {m : MethodId} {args : Array Value} {below : List Frame} {meth : Method} {c : Code} {X : XT} (hinj : XInj X nC) (hZ : ZOK (Zc X)) (C : CX p s m args meth c cX6_sortTold 2 RX6 (some .int) X nC (Zc X)) (out : Int × S2) (c0 : Nat) (i0 : Is6 c0) : ∀ (N : Nat), ∀ (x1 : Int) (S : S2) (H : Heap) (locs : List Loc) (ls : Array Slot), f_X6_sortTold_2 c0 N x1 S = some out → WH X shC nC s S H locs → lv_has ls 2 [(0, .ref (X.2.2 c0)), (1, .int (iz x1))] → W p l e rmX6_sortTold s m args below meth c H locs 0 0 (QI X shC nC s args below out) (F0 m 2 ls []) := by
  intro N
  induction N with
  | zero => intro x1 S H locs ls hf hw hl; cases hf
  | succ N ih =>
    intro x1 S H locs ls hf hw hl
    rw [f_X6_sortTold_2.eq_2] at hf
    refine lv_iload_n C.1.1 C.1.2.1 dX6_sortTold_2 rfl (lv_at hl 1 rfl) ?_
    refine r_bipush (v := 10) C dX6_sortTold_3 (by decide) ?_
    refine r_icmp_ge C (tgt := 27) dX6_sortTold_5 (by decide) hf (fun hf => ?_) (fun hf => ?_)
    · refine r_iconst (v := (-1)) C dX6_sortTold_27 ?_
      exact r_retI C hw dX6_sortTold_28 hf
    · refine lv_aload_n C.1.1 C.1.2.1 dX6_sortTold_8 rfl (lv_at hl 0 rfl) ?_
      refine lv_iload_n C.1.1 C.1.2.1 dX6_sortTold_9 rfl (lv_at hl 1 rfl) ?_
      refine r_scallR (As := [.int (iz x1)]) (rest := [.ref (X.2.2 c0)]) (rm := rmX7_wordOf) C hw tw3_21 tw3_22 tw1_9 tw3_23 hd_X7_wordOf rfl ⟨⟨rfl, rfl⟩, Nat.le_of_ble_eq_true rfl, Nat.le_of_ble_eq_true rfl⟩ hl.1 rfl (Nat.le_of_ble_eq_true rfl) dX6_sortTold_10 hf (fun o ho => c_X7_wordOf l X hinj hZ N S x1 o ho) (fun S10 H locs hf hw => ?_)
      refine r_callI (As := [.ref (X.2.2 (1000 + wordIx x1))]) (rest := []) (rm := rmX6_isWord) C hw (is6_s i0) (is6_l i0) cO6 tw2_157 tw2_159 tp_5 tw1_2 tw2_160 hd_X6_isWord rfl ⟨⟨rfl, rfl⟩, Nat.le_of_ble_eq_true rfl, Nat.le_of_ble_eq_true rfl⟩ hl.1 rfl (Nat.le_of_ble_eq_true rfl) dX6_sortTold_13 hf (fun o ho => c_X6_isWord l X hinj hZ N S10 c0 (wordIx x1) i0 (wordIx_lt _) o ho) (fun v13 S13 H locs hf hw => ?_)
      refine r_if_eq C (tgt := 21) dX6_sortTold_16 (by decide) hf (fun hf => ?_) (fun hf => ?_)
      · refine lv_iinc (v := iz (x1 + 1)) (lv' := [(1, .int (iz (x1 + 1))), (0, .ref (X.2.2 c0))]) C.1.1 C.1.2.1 dX6_sortTold_21 hl (k := 1) rfl (iz_add _ _) (by decide) rfl (fun ls hl => ?_)
        refine lv_goto (tgt := 2) C.1.1 C.1.2.1 dX6_sortTold_24 (by decide) ?_
        exact ih (x1 + 1) S13 H locs ls hf hw (lv_sub hl [1, 0] rfl)
      · refine lv_iload_n C.1.1 C.1.2.1 dX6_sortTold_19 rfl (lv_at hl 1 rfl) ?_
        exact r_retI C hw dX6_sortTold_20 hf
set_option maxRecDepth 100000 in
set_option maxHeartbeats 4000000 in
theorem c_X6_sortTold (l : Launch) (X : XT) (hinj : XInj X nC) (hZ : ZOK (Zc X)) (N : Nat) (S : S2) (c0 : Nat) (i0 : Is6 c0) (out : Int × S2) (hf : f_X6_sortTold N S c0 = some out) : MI l X shC nC (Zc X) yX6_sortTold cX6_sortTold 2 (some .int) rmX6_sortTold [.ref (X.2.2 c0)] S out := by
  refine met_I (own := RX6) (by decide) rfl hinj hZ (Nat.le_of_ble_eq_true rfl) (fun p e s m args below meth c C ls H locs hw hl => ?_)
  unfold f_X6_sortTold at hf
  have hl : lv_has ls 2 [(0, .ref (X.2.2 c0))] := hl
  refine r_iconst (v := 0) C dX6_sortTold_0 ?_
  refine lv_istore_n (lv' := [(1, .int (iz 0)), (0, .ref (X.2.2 c0))]) C.1.1 C.1.2.1 dX6_sortTold_1 rfl hl (by decide) rfl (fun ls hl => ?_)
  exact (w_X6_sortTold_2 l hinj hZ C out c0 i0 N) 0 S H locs ls hf hw (lv_sub hl [1, 0] rfl)
def f_X6_readStep_90 (c0 : Nat) (c1 : Nat) (N : Nat) (x2 : Int) (x4 : Int) (x5 : Int) (S : S2) : Option (Int × S2) := bV (f_X7_add N S c1 x2 x4 x5) fun S96 => rZ 1 S96
def f_X6_readStep_64 (c0 : Nat) (c1 : Nat) (N : Nat) (x2 : Int) (x3 : Int) (x4 : Int) (x5 : Int) (S : S2) : Option (Int × S2) := cI x3 1 (if x3 ≤ 1 then (f_X6_readStep_90 c0 c1 N) x2 x4 x5 S else bI (f_X6_readNumber N S c0 (-999) 999) fun v76 S76 => cI v76 0 (if v76 = 0 then rZ 0 S76 else gI S76 c0 3 fun v85 => (f_X6_readStep_90 c0 c1 N) x2 x4 v85 S76))
def f_X6_readStep (N : Nat) (S : S2) (c0 : Nat) (c1 : Nat) : Option (Int × S2) := bI (f_X6_readWord N S c0) fun v1 S1 => cI v1 0 (if v1 = 0 then rZ 0 S1 else bI (f_X6_sortTold N S1 c0) fun v10 S10 => cI v10 (-1) (if v10 = (-1) then gI S10 c0 4 fun v21 => bI (f_X6_fail N S10 c0 v21) fun v24 S24 => rZ v24 S24 else bI (f_X7_numbersOf N S10 v10) fun v29 S29 => cI v29 0 (if v29 ≤ 0 then (f_X6_readStep_64 c0 c1 N) v10 v29 0 0 S29 else bI (f_X6_readNumber N S29 c0 (-999) 999) fun v50 S50 => cI v50 0 (if v50 = 0 then rZ 0 S50 else gI S50 c0 3 fun v59 => (f_X6_readStep_64 c0 c1 N) v10 v29 v59 0 S50))))
abbrev rmX6_readStep : Room := { frames := 6, cells := 0, slots := 0, locals := 128 }
theorem hd_X6_readStep : yX6_readStep.cls ≠ "java/lang/invoke/MethodHandle" ∧ yX6_readStep.cls ≠ "java/lang/invoke/VarHandle" ∧ (parseMethodDescriptor yX6_readStep.desc).map (fun d => d.parameters.length) = some 1 := by decide +kernel
set_option maxRecDepth 100000 in
set_option maxHeartbeats 4000000 in
theorem w_X6_readStep_90 {p : Program} (l : Launch) {e : Env} {s : State} {m : MethodId} {args : Array Value} {below : List Frame} {meth : Method} {c : Code} {X : XT} (hinj : XInj X nC) (hZ : ZOK (Zc X)) (C : CX p s m args meth c cX6_readStep 6 RX6 (some .boolean) X nC (Zc X)) (out : Int × S2) (c0 : Nat) (c1 : Nat) (i0 : Is6 c0) (i1 : Is7 c1) : ∀ (N : Nat), ∀ (x2 : Int) (x4 : Int) (x5 : Int) (S : S2) (H : Heap) (locs : List Loc) (ls : Array Slot), f_X6_readStep_90 c0 c1 N x2 x4 x5 S = some out → WH X shC nC s S H locs → lv_has ls 6 [(1, .ref (X.2.2 c1)), (2, .int (iz x2)), (4, .int (iz x4)), (5, .int (iz x5))] → W p l e rmX6_readStep s m args below meth c H locs 0 0 (QI X shC nC s args below out) (F0 m 90 ls []) := by
  intro N x2 x4 x5 S H locs ls hf hw hl
  unfold f_X6_readStep_90 at hf
  refine lv_aload_n C.1.1 C.1.2.1 dX6_readStep_90 rfl (lv_at hl 0 rfl) ?_
  refine lv_iload_n C.1.1 C.1.2.1 dX6_readStep_91 rfl (lv_at hl 1 rfl) ?_
  refine lv_iload C.1.1 C.1.2.1 dX6_readStep_92 (lv_at hl 2 rfl) ?_
  refine lv_iload C.1.1 C.1.2.1 dX6_readStep_94 (lv_at hl 3 rfl) ?_
  refine r_callV (As := [.int (iz x2), .int (iz x4), .int (iz x5)]) (rest := []) (rm := rmX7_add) C hw (is7_s i1) (is7_l i1) cO7 tw3_37 tw3_38 tw3_39 tw1_9 tw3_40 hd_X7_add rfl ⟨⟨rfl, rfl⟩, Nat.le_of_ble_eq_true rfl, Nat.le_of_ble_eq_true rfl⟩ hl.1 rfl (Nat.le_of_ble_eq_true rfl) dX6_readStep_96 hf (fun o ho => c_X7_add l X hinj hZ N S c1 x2 x4 x5 i1 o ho) (fun S96 H locs hf hw => ?_)
  refine r_iconst (v := 1) C dX6_readStep_99 ?_
  exact r_retZ C hw dX6_readStep_100 hf
set_option maxRecDepth 100000 in
set_option maxHeartbeats 4000000 in
theorem w_X6_readStep_64 {p : Program} (l : Launch) {e : Env} {s : State} {m : MethodId} {args : Array Value} {below : List Frame} {meth : Method} {c : Code} {X : XT} (hinj : XInj X nC) (hZ : ZOK (Zc X)) (C : CX p s m args meth c cX6_readStep 6 RX6 (some .boolean) X nC (Zc X)) (out : Int × S2) (c0 : Nat) (c1 : Nat) (i0 : Is6 c0) (i1 : Is7 c1) : ∀ (N : Nat), ∀ (x2 : Int) (x3 : Int) (x4 : Int) (x5 : Int) (S : S2) (H : Heap) (locs : List Loc) (ls : Array Slot), f_X6_readStep_64 c0 c1 N x2 x3 x4 x5 S = some out → WH X shC nC s S H locs → lv_has ls 6 [(0, .ref (X.2.2 c0)), (1, .ref (X.2.2 c1)), (2, .int (iz x2)), (3, .int (iz x3)), (4, .int (iz x4)), (5, .int (iz x5))] → W p l e rmX6_readStep s m args below meth c H locs 0 0 (QI X shC nC s args below out) (F0 m 64 ls []) := by
  intro N x2 x3 x4 x5 S H locs ls hf hw hl
  unfold f_X6_readStep_64 at hf
  refine lv_iload_n C.1.1 C.1.2.1 dX6_readStep_64 rfl (lv_at hl 3 rfl) ?_
  refine r_iconst (v := 1) C dX6_readStep_65 ?_
  refine r_icmp_le C (tgt := 90) dX6_readStep_66 (by decide) hf (fun hf => ?_) (fun hf => ?_)
  · exact (w_X6_readStep_90 l hinj hZ C out c0 c1 i0 i1 N) x2 x4 x5 S H locs ls hf hw (lv_sub hl [1, 2, 4, 5] rfl)
  · refine lv_aload_n C.1.1 C.1.2.1 dX6_readStep_69 rfl (lv_at hl 0 rfl) ?_
    refine r_sipush (v := (-999)) C dX6_readStep_70 (by decide) ?_
    refine r_sipush (v := 999) C dX6_readStep_73 (by decide) ?_
    refine r_callI (As := [.int (iz (-999)), .int (iz 999)]) (rest := []) (rm := rmX6_readNumber) C hw (is6_s i0) (is6_l i0) cO6 tw2_213 tw2_215 tp_7 tw1_2 tw2_216 hd_X6_readNumber rfl ⟨⟨rfl, rfl⟩, Nat.le_of_ble_eq_true rfl, Nat.le_of_ble_eq_true rfl⟩ hl.1 rfl (Nat.le_of_ble_eq_true rfl) dX6_readStep_76 hf (fun o ho => c_X6_readNumber l X hinj hZ N S c0 (-999) 999 i0 o ho) (fun v76 S76 H locs hf hw => ?_)
    refine r_if_ne C (tgt := 84) dX6_readStep_79 (by decide) hf (fun hf => ?_) (fun hf => ?_)
    · refine lv_aload_n C.1.1 C.1.2.1 dX6_readStep_84 rfl (lv_at hl 0 rfl) ?_
      refine r_getI (k := 3) C hw (is6_s i0) (is6_l i0) cO6 rfl (by decide) tw1_57 rfl dX6_readStep_85 hf (fun v85 hf => ?_)
      refine lv_istore (lv' := [(5, .int (iz v85)), (0, .ref (X.2.2 c0)), (1, .ref (X.2.2 c1)), (2, .int (iz x2)), (3, .int (iz x3)), (4, .int (iz x4))]) C.1.1 C.1.2.1 dX6_readStep_88 hl (by decide) rfl (fun ls hl => ?_)
      exact (w_X6_readStep_90 l hinj hZ C out c0 c1 i0 i1 N) x2 x4 v85 S76 H locs ls hf hw (lv_sub hl [2, 3, 5, 0] rfl)
    · refine r_iconst (v := 0) C dX6_readStep_82 ?_
      exact r_retZ C hw dX6_readStep_83 hf
set_option maxRecDepth 100000 in
set_option maxHeartbeats 4000000 in
theorem c_X6_readStep (l : Launch) (X : XT) (hinj : XInj X nC) (hZ : ZOK (Zc X)) (N : Nat) (S : S2) (c0 : Nat) (c1 : Nat) (i0 : Is6 c0) (i1 : Is7 c1) (out : Int × S2) (hf : f_X6_readStep N S c0 c1 = some out) : MI l X shC nC (Zc X) yX6_readStep cX6_readStep 6 (some .boolean) rmX6_readStep [.ref (X.2.2 c0), .ref (X.2.2 c1)] S out := by
  refine met_I (own := RX6) (by decide) rfl hinj hZ (Nat.le_of_ble_eq_true rfl) (fun p e s m args below meth c C ls H locs hw hl => ?_)
  unfold f_X6_readStep at hf
  have hl : lv_has ls 6 [(0, .ref (X.2.2 c0)), (1, .ref (X.2.2 c1))] := hl
  refine lv_aload_n C.1.1 C.1.2.1 dX6_readStep_0 rfl (lv_at hl 0 rfl) ?_
  refine r_callI (As := []) (rest := []) (rm := rmX6_readWord) C hw (is6_s i0) (is6_l i0) cO6 tw2_135 tw2_137 tp_2 tw1_2 tw2_138 hd_X6_readWord rfl ⟨⟨rfl, rfl⟩, Nat.le_of_ble_eq_true rfl, Nat.le_of_ble_eq_true rfl⟩ hl.1 rfl (Nat.le_of_ble_eq_true rfl) dX6_readStep_1 hf (fun o ho => c_X6_readWord l X hinj hZ N S c0 i0 o ho) (fun v1 S1 H locs hf hw => ?_)
  refine r_if_ne C (tgt := 9) dX6_readStep_4 (by decide) hf (fun hf => ?_) (fun hf => ?_)
  · refine lv_aload_n C.1.1 C.1.2.1 dX6_readStep_9 rfl (lv_at hl 0 rfl) ?_
    refine r_callI (As := []) (rest := []) (rm := rmX6_sortTold) C hw (is6_s i0) (is6_l i0) cO6 tw3_17 tw3_19 tp_12 tw1_2 tw3_20 hd_X6_sortTold rfl ⟨⟨rfl, rfl⟩, Nat.le_of_ble_eq_true rfl, Nat.le_of_ble_eq_true rfl⟩ hl.1 rfl (Nat.le_of_ble_eq_true rfl) dX6_readStep_10 hf (fun o ho => c_X6_sortTold l X hinj hZ N S1 c0 i0 o ho) (fun v10 S10 H locs hf hw => ?_)
    refine lv_istore_n (lv' := [(2, .int (iz v10)), (0, .ref (X.2.2 c0)), (1, .ref (X.2.2 c1))]) C.1.1 C.1.2.1 dX6_readStep_13 rfl hl (by decide) rfl (fun ls hl => ?_)
    refine lv_iload_n C.1.1 C.1.2.1 dX6_readStep_14 rfl (lv_at hl 0 rfl) ?_
    refine r_iconst (v := (-1)) C dX6_readStep_15 ?_
    refine r_icmp_ne C (tgt := 28) dX6_readStep_16 (by decide) hf (fun hf => ?_) (fun hf => ?_)
    · refine lv_iload_n C.1.1 C.1.2.1 dX6_readStep_28 rfl (lv_at hl 0 rfl) ?_
      refine r_scallI (As := [.int (iz v10)]) (rest := []) (rm := rmX7_numbersOf) C hw tw3_34 tw3_35 tw1_9 tw3_36 hd_X7_numbersOf rfl ⟨⟨rfl, rfl⟩, Nat.le_of_ble_eq_true rfl, Nat.le_of_ble_eq_true rfl⟩ hl.1 rfl (Nat.le_of_ble_eq_true rfl) dX6_readStep_29 hf (fun o ho => c_X7_numbersOf l X hinj hZ N S10 v10 o ho) (fun v29 S29 H locs hf hw => ?_)
      refine lv_istore_n (lv' := [(3, .int (iz v29)), (2, .int (iz v10)), (0, .ref (X.2.2 c0)), (1, .ref (X.2.2 c1))]) C.1.1 C.1.2.1 dX6_readStep_32 rfl hl (by decide) rfl (fun ls hl => ?_)
      refine r_iconst (v := 0) C dX6_readStep_33 ?_
      refine lv_istore (lv' := [(4, .int (iz 0)), (3, .int (iz v29)), (2, .int (iz v10)), (0, .ref (X.2.2 c0)), (1, .ref (X.2.2 c1))]) C.1.1 C.1.2.1 dX6_readStep_34 hl (by decide) rfl (fun ls hl => ?_)
      refine r_iconst (v := 0) C dX6_readStep_36 ?_
      refine lv_istore (lv' := [(5, .int (iz 0)), (4, .int (iz 0)), (3, .int (iz v29)), (2, .int (iz v10)), (0, .ref (X.2.2 c0)), (1, .ref (X.2.2 c1))]) C.1.1 C.1.2.1 dX6_readStep_37 hl (by decide) rfl (fun ls hl => ?_)
      refine lv_iload_n C.1.1 C.1.2.1 dX6_readStep_39 rfl (lv_at hl 2 rfl) ?_
      refine r_if_le C (tgt := 64) dX6_readStep_40 (by decide) hf (fun hf => ?_) (fun hf => ?_)
      · exact (w_X6_readStep_64 l hinj hZ C out c0 c1 i0 i1 N) v10 v29 0 0 S29 H locs ls hf hw (lv_sub hl [4, 5, 3, 2, 1, 0] rfl)
      · refine lv_aload_n C.1.1 C.1.2.1 dX6_readStep_43 rfl (lv_at hl 4 rfl) ?_
        refine r_sipush (v := (-999)) C dX6_readStep_44 (by decide) ?_
        refine r_sipush (v := 999) C dX6_readStep_47 (by decide) ?_
        refine r_callI (As := [.int (iz (-999)), .int (iz 999)]) (rest := []) (rm := rmX6_readNumber) C hw (is6_s i0) (is6_l i0) cO6 tw2_213 tw2_215 tp_7 tw1_2 tw2_216 hd_X6_readNumber rfl ⟨⟨rfl, rfl⟩, Nat.le_of_ble_eq_true rfl, Nat.le_of_ble_eq_true rfl⟩ hl.1 rfl (Nat.le_of_ble_eq_true rfl) dX6_readStep_50 hf (fun o ho => c_X6_readNumber l X hinj hZ N S29 c0 (-999) 999 i0 o ho) (fun v50 S50 H locs hf hw => ?_)
        refine r_if_ne C (tgt := 58) dX6_readStep_53 (by decide) hf (fun hf => ?_) (fun hf => ?_)
        · refine lv_aload_n C.1.1 C.1.2.1 dX6_readStep_58 rfl (lv_at hl 4 rfl) ?_
          refine r_getI (k := 3) C hw (is6_s i0) (is6_l i0) cO6 rfl (by decide) tw1_57 rfl dX6_readStep_59 hf (fun v59 hf => ?_)
          refine lv_istore (lv' := [(4, .int (iz v59)), (5, .int (iz 0)), (3, .int (iz v29)), (2, .int (iz v10)), (0, .ref (X.2.2 c0)), (1, .ref (X.2.2 c1))]) C.1.1 C.1.2.1 dX6_readStep_62 hl (by decide) rfl (fun ls hl => ?_)
          exact (w_X6_readStep_64 l hinj hZ C out c0 c1 i0 i1 N) v10 v29 v59 0 S50 H locs ls hf hw (lv_sub hl [4, 5, 3, 2, 0, 1] rfl)
        · refine r_iconst (v := 0) C dX6_readStep_56 ?_
          exact r_retZ C hw dX6_readStep_57 hf
    · refine lv_aload_n C.1.1 C.1.2.1 dX6_readStep_19 rfl (lv_at hl 1 rfl) ?_
      refine lv_aload_n C.1.1 C.1.2.1 dX6_readStep_20 rfl (lv_at hl 1 rfl) ?_
      refine r_getI (k := 4) C hw (is6_s i0) (is6_l i0) cO6 rfl (by decide) tw1_58 rfl dX6_readStep_21 hf (fun v21 hf => ?_)
      refine r_callI (As := [.int (iz v21)]) (rest := []) (rm := rmX6_fail) C hw (is6_s i0) (is6_l i0) cO6 tw2_152 tw2_154 tp_4 tw1_2 tw2_155 hd_X6_fail rfl ⟨⟨rfl, rfl⟩, Nat.le_of_ble_eq_true rfl, Nat.le_of_ble_eq_true rfl⟩ hl.1 rfl (Nat.le_of_ble_eq_true rfl) dX6_readStep_24 hf (fun o ho => c_X6_fail l X hinj hZ N S10 c0 v21 i0 o ho) (fun v24 S24 H locs hf hw => ?_)
      exact r_retZ C hw dX6_readStep_27 hf
  · refine r_iconst (v := 0) C dX6_readStep_7 ?_
    exact r_retZ C hw dX6_readStep_8 hf
def f_X6_readScript_61 (c0 : Nat) (c1 : Nat) (N : Nat) (S : S2) : Option (Int × S2) := gI S c0 2 fun v62 => rI v62 S
def f_X6_readScript_54 (c0 : Nat) (c1 : Nat) (k13 : Int → Int → S2 → Option (Int × S2)) (N : Nat) (x3 : Int) (y0 : Int) (S : S2) : Option (Int × S2) := k13 y0 (x3 + 1) S
def f_X6_readScript_53 (c0 : Nat) (c1 : Nat) (k13 : Int → Int → S2 → Option (Int × S2)) (N : Nat) (x3 : Int) (S : S2) : Option (Int × S2) := (f_X6_readScript_54 c0 c1 k13 N) x3 0 S
def f_X6_readScript_43 (c0 : Nat) (c1 : Nat) (k13 : Int → Int → S2 → Option (Int × S2)) (N : Nat) (x3 : Int) (y0 : Int) (S : S2) : Option (Int × S2) := bI (f_X6_readSemicolon N S c0 y0) fun v43 S43 => cI v43 0 (if v43 = 0 then (f_X6_readScript_53 c0 c1 k13 N) x3 S43 else (f_X6_readScript_54 c0 c1 k13 N) x3 1 S43)
def f_X6_readScript_13 (c0 : Nat) (c1 : Nat) (k61 : S2 → Option (Int × S2)) : Nat → Int → Int → S2 → Option (Int × S2)
  | 0, _, _, _ => none
  | N + 1, x2, x3, S => cI x2 0 (if x2 = 0 then k61 S else cI x3 12 (if 12 < x3 then k61 S else bI (f_X6_readStep N S c0 c1) fun v25 S25 => cI v25 0 (if v25 = 0 then (f_X6_readScript_53 c0 c1 (f_X6_readScript_13 c0 c1 k61 N) N) x3 S25 else cI x3 12 (if 12 ≤ x3 then (f_X6_readScript_43 c0 c1 (f_X6_readScript_13 c0 c1 k61 N) N) x3 0 S25 else (f_X6_readScript_43 c0 c1 (f_X6_readScript_13 c0 c1 k61 N) N) x3 1 S25))))
def f_X6_readScript (N : Nat) (S : S2) (c0 : Nat) (c1 : Nat) : Option (Int × S2) := bV (f_X6_begin N S c0) fun S1 => uI S1 c1 0 0 fun S6 => (f_X6_readScript_13 c0 c1 (f_X6_readScript_61 c0 c1 N) N) 1 1 S6
abbrev rmX6_readScript : Room := { frames := 7, cells := 0, slots := 0, locals := 153 }
theorem hd_X6_readScript : yX6_readScript.cls ≠ "java/lang/invoke/MethodHandle" ∧ yX6_readScript.cls ≠ "java/lang/invoke/VarHandle" ∧ (parseMethodDescriptor yX6_readScript.desc).map (fun d => d.parameters.length) = some 1 := by decide +kernel
set_option maxRecDepth 100000 in
set_option maxHeartbeats 4000000 in
theorem w_X6_readScript_61 {p : Program} (l : Launch) {e : Env} {s : State} {m : MethodId} {args : Array Value} {below : List Frame} {meth : Method} {c : Code} {X : XT} (hinj : XInj X nC) (hZ : ZOK (Zc X)) (C : CX p s m args meth c cX6_readScript 4 RX6 (some .int) X nC (Zc X)) (out : Int × S2) (c0 : Nat) (c1 : Nat) (i0 : Is6 c0) (i1 : Is7 c1) : ∀ (N : Nat), ∀ (S : S2) (H : Heap) (locs : List Loc) (ls : Array Slot), f_X6_readScript_61 c0 c1 N S = some out → WH X shC nC s S H locs → lv_has ls 4 [(0, .ref (X.2.2 c0))] → W p l e rmX6_readScript s m args below meth c H locs 0 0 (QI X shC nC s args below out) (F0 m 61 ls []) := by
  intro N S H locs ls hf hw hl
  unfold f_X6_readScript_61 at hf
  refine lv_aload_n C.1.1 C.1.2.1 dX6_readScript_61 rfl (lv_at hl 0 rfl) ?_
  refine r_getI (k := 2) C hw (is6_s i0) (is6_l i0) cO6 rfl (by decide) tw1_56 rfl dX6_readScript_62 hf (fun v62 hf => ?_)
  exact r_retI C hw dX6_readScript_65 hf
set_option maxRecDepth 100000 in
set_option maxHeartbeats 4000000 in
theorem w_X6_readScript_54 {p : Program} (l : Launch) {e : Env} {s : State} {m : MethodId} {args : Array Value} {below : List Frame} {meth : Method} {c : Code} {X : XT} (hinj : XInj X nC) (hZ : ZOK (Zc X)) (C : CX p s m args meth c cX6_readScript 4 RX6 (some .int) X nC (Zc X)) (out : Int × S2) (c0 : Nat) (c1 : Nat) (i0 : Is6 c0) (i1 : Is7 c1) (k13 : Int → Int → S2 → Option (Int × S2)) (hk13 : ∀ (x2 : Int) (x3 : Int) (S : S2) (H : Heap) (locs : List Loc) (ls : Array Slot), k13 x2 x3 S = some out → WH X shC nC s S H locs → lv_has ls 4 [(0, .ref (X.2.2 c0)), (1, .ref (X.2.2 c1)), (2, .int (iz x2)), (3, .int (iz x3))] → W p l e rmX6_readScript s m args below meth c H locs 0 0 (QI X shC nC s args below out) (F0 m 13 ls [])) : ∀ (N : Nat), ∀ (x3 : Int) (y0 : Int) (S : S2) (H : Heap) (locs : List Loc) (ls : Array Slot), f_X6_readScript_54 c0 c1 k13 N x3 y0 S = some out → WH X shC nC s S H locs → lv_has ls 4 [(0, .ref (X.2.2 c0)), (1, .ref (X.2.2 c1)), (3, .int (iz x3))] → W p l e rmX6_readScript s m args below meth c H locs 0 0 (QI X shC nC s args below out) (F0 m 54 ls [.int (iz y0)]) := by
  intro N x3 y0 S H locs ls hf hw hl
  unfold f_X6_readScript_54 at hf
  refine lv_istore_n (lv' := [(2, .int (iz y0)), (0, .ref (X.2.2 c0)), (1, .ref (X.2.2 c1)), (3, .int (iz x3))]) C.1.1 C.1.2.1 dX6_readScript_54 rfl hl (by decide) rfl (fun ls hl => ?_)
  refine lv_iinc (v := iz (x3 + 1)) (lv' := [(3, .int (iz (x3 + 1))), (2, .int (iz y0)), (0, .ref (X.2.2 c0)), (1, .ref (X.2.2 c1))]) C.1.1 C.1.2.1 dX6_readScript_55 hl (k := 3) rfl (iz_add _ _) (by decide) rfl (fun ls hl => ?_)
  refine lv_goto (tgt := 13) C.1.1 C.1.2.1 dX6_readScript_58 (by decide) ?_
  exact hk13 y0 (x3 + 1) S H locs ls hf hw (lv_sub hl [2, 3, 1, 0] rfl)
set_option maxRecDepth 100000 in
set_option maxHeartbeats 4000000 in
theorem w_X6_readScript_53 {p : Program} (l : Launch) {e : Env} {s : State} {m : MethodId} {args : Array Value} {below : List Frame} {meth : Method} {c : Code} {X : XT} (hinj : XInj X nC) (hZ : ZOK (Zc X)) (C : CX p s m args meth c cX6_readScript 4 RX6 (some .int) X nC (Zc X)) (out : Int × S2) (c0 : Nat) (c1 : Nat) (i0 : Is6 c0) (i1 : Is7 c1) (k13 : Int → Int → S2 → Option (Int × S2)) (hk13 : ∀ (x2 : Int) (x3 : Int) (S : S2) (H : Heap) (locs : List Loc) (ls : Array Slot), k13 x2 x3 S = some out → WH X shC nC s S H locs → lv_has ls 4 [(0, .ref (X.2.2 c0)), (1, .ref (X.2.2 c1)), (2, .int (iz x2)), (3, .int (iz x3))] → W p l e rmX6_readScript s m args below meth c H locs 0 0 (QI X shC nC s args below out) (F0 m 13 ls [])) : ∀ (N : Nat), ∀ (x3 : Int) (S : S2) (H : Heap) (locs : List Loc) (ls : Array Slot), f_X6_readScript_53 c0 c1 k13 N x3 S = some out → WH X shC nC s S H locs → lv_has ls 4 [(0, .ref (X.2.2 c0)), (1, .ref (X.2.2 c1)), (3, .int (iz x3))] → W p l e rmX6_readScript s m args below meth c H locs 0 0 (QI X shC nC s args below out) (F0 m 53 ls []) := by
  intro N x3 S H locs ls hf hw hl
  unfold f_X6_readScript_53 at hf
  refine r_iconst (v := 0) C dX6_readScript_53 ?_
  exact (w_X6_readScript_54 l hinj hZ C out c0 c1 i0 i1 k13 hk13 N) x3 0 S H locs ls hf hw (lv_sub hl [0, 1, 2] rfl)
set_option maxRecDepth 100000 in
set_option maxHeartbeats 4000000 in
theorem w_X6_readScript_43 {p : Program} (l : Launch) {e : Env} {s : State} {m : MethodId} {args : Array Value} {below : List Frame} {meth : Method} {c : Code} {X : XT} (hinj : XInj X nC) (hZ : ZOK (Zc X)) (C : CX p s m args meth c cX6_readScript 4 RX6 (some .int) X nC (Zc X)) (out : Int × S2) (c0 : Nat) (c1 : Nat) (i0 : Is6 c0) (i1 : Is7 c1) (k13 : Int → Int → S2 → Option (Int × S2)) (hk13 : ∀ (x2 : Int) (x3 : Int) (S : S2) (H : Heap) (locs : List Loc) (ls : Array Slot), k13 x2 x3 S = some out → WH X shC nC s S H locs → lv_has ls 4 [(0, .ref (X.2.2 c0)), (1, .ref (X.2.2 c1)), (2, .int (iz x2)), (3, .int (iz x3))] → W p l e rmX6_readScript s m args below meth c H locs 0 0 (QI X shC nC s args below out) (F0 m 13 ls [])) : ∀ (N : Nat), ∀ (x3 : Int) (y0 : Int) (S : S2) (H : Heap) (locs : List Loc) (ls : Array Slot), f_X6_readScript_43 c0 c1 k13 N x3 y0 S = some out → WH X shC nC s S H locs → lv_has ls 4 [(0, .ref (X.2.2 c0)), (1, .ref (X.2.2 c1)), (3, .int (iz x3))] → W p l e rmX6_readScript s m args below meth c H locs 0 0 (QI X shC nC s args below out) (F0 m 43 ls [.int (iz y0), .ref (X.2.2 c0)]) := by
  intro N x3 y0 S H locs ls hf hw hl
  unfold f_X6_readScript_43 at hf
  refine r_callI (As := [.int (iz y0)]) (rest := []) (rm := rmX6_readSemicolon) C hw (is6_s i0) (is6_l i0) cO6 tw3_5 tw3_7 tp_10 tw1_2 tw3_8 hd_X6_readSemicolon rfl ⟨⟨rfl, rfl⟩, Nat.le_of_ble_eq_true rfl, Nat.le_of_ble_eq_true rfl⟩ hl.1 rfl (Nat.le_of_ble_eq_true rfl) dX6_readScript_43 hf (fun o ho => c_X6_readSemicolon l X hinj hZ N S c0 y0 i0 o ho) (fun v43 S43 H locs hf hw => ?_)
  refine r_if_eq C (tgt := 53) dX6_readScript_46 (by decide) hf (fun hf => ?_) (fun hf => ?_)
  · exact (w_X6_readScript_53 l hinj hZ C out c0 c1 i0 i1 k13 hk13 N) x3 S43 H locs ls hf hw (lv_sub hl [0, 1, 2] rfl)
  · refine r_iconst (v := 1) C dX6_readScript_49 ?_
    refine lv_goto (tgt := 54) C.1.1 C.1.2.1 dX6_readScript_50 (by decide) ?_
    exact (w_X6_readScript_54 l hinj hZ C out c0 c1 i0 i1 k13 hk13 N) x3 1 S43 H locs ls hf hw (lv_sub hl [0, 1, 2] rfl)
set_option maxRecDepth 100000 in
set_option maxHeartbeats 4000000 in
theorem w_X6_readScript_13 {p : Program} (l : Launch) {e : Env} {s : State} {m : MethodId} {args : Array Value} {below : List Frame} {meth : Method} {c : Code} {X : XT} (hinj : XInj X nC) (hZ : ZOK (Zc X)) (C : CX p s m args meth c cX6_readScript 4 RX6 (some .int) X nC (Zc X)) (out : Int × S2) (c0 : Nat) (c1 : Nat) (i0 : Is6 c0) (i1 : Is7 c1) (k61 : S2 → Option (Int × S2)) (hk61 : ∀ (S : S2) (H : Heap) (locs : List Loc) (ls : Array Slot), k61 S = some out → WH X shC nC s S H locs → lv_has ls 4 [(0, .ref (X.2.2 c0))] → W p l e rmX6_readScript s m args below meth c H locs 0 0 (QI X shC nC s args below out) (F0 m 61 ls [])) : ∀ (N : Nat), ∀ (x2 : Int) (x3 : Int) (S : S2) (H : Heap) (locs : List Loc) (ls : Array Slot), f_X6_readScript_13 c0 c1 k61 N x2 x3 S = some out → WH X shC nC s S H locs → lv_has ls 4 [(0, .ref (X.2.2 c0)), (1, .ref (X.2.2 c1)), (2, .int (iz x2)), (3, .int (iz x3))] → W p l e rmX6_readScript s m args below meth c H locs 0 0 (QI X shC nC s args below out) (F0 m 13 ls []) := by
  intro N
  induction N with
  | zero => intro x2 x3 S H locs ls hf hw hl; cases hf
  | succ N ih =>
    intro x2 x3 S H locs ls hf hw hl
    rw [f_X6_readScript_13.eq_2] at hf
    refine lv_iload_n C.1.1 C.1.2.1 dX6_readScript_13 rfl (lv_at hl 2 rfl) ?_
    refine r_if_eq C (tgt := 61) dX6_readScript_14 (by decide) hf (fun hf => ?_) (fun hf => ?_)
    · exact hk61 S H locs ls hf hw (lv_sub hl [0] rfl)
    · refine lv_iload_n C.1.1 C.1.2.1 dX6_readScript_17 rfl (lv_at hl 3 rfl) ?_
      refine r_bipush (v := 12) C dX6_readScript_18 (by decide) ?_
      refine r_icmp_gt C (tgt := 61) dX6_readScript_20 (by decide) hf (fun hf => ?_) (fun hf => ?_)
      · exact hk61 S H locs ls hf hw (lv_sub hl [0] rfl)
      · refine lv_aload_n C.1.1 C.1.2.1 dX6_readScript_23 rfl (lv_at hl 0 rfl) ?_
        refine lv_aload_n C.1.1 C.1.2.1 dX6_readScript_24 rfl (lv_at hl 1 rfl) ?_
        refine r_callI (As := [.ref (X.2.2 c1)]) (rest := []) (rm := rmX6_readStep) C hw (is6_s i0) (is6_l i0) cO6 tw3_13 tw3_15 tp_11 tw1_2 tw3_16 hd_X6_readStep rfl ⟨⟨rfl, rfl⟩, Nat.le_of_ble_eq_true rfl, Nat.le_of_ble_eq_true rfl⟩ hl.1 rfl (Nat.le_of_ble_eq_true rfl) dX6_readScript_25 hf (fun o ho => c_X6_readStep l X hinj hZ N S c0 c1 i0 i1 o ho) (fun v25 S25 H locs hf hw => ?_)
        refine r_if_eq C (tgt := 53) dX6_readScript_28 (by decide) hf (fun hf => ?_) (fun hf => ?_)
        · exact (w_X6_readScript_53 l hinj hZ C out c0 c1 i0 i1 (f_X6_readScript_13 c0 c1 k61 N) ih N) x3 S25 H locs ls hf hw (lv_sub hl [0, 1, 3] rfl)
        · refine lv_aload_n C.1.1 C.1.2.1 dX6_readScript_31 rfl (lv_at hl 0 rfl) ?_
          refine lv_iload_n C.1.1 C.1.2.1 dX6_readScript_32 rfl (lv_at hl 3 rfl) ?_
          refine r_bipush (v := 12) C dX6_readScript_33 (by decide) ?_
          refine r_icmp_ge C (tgt := 42) dX6_readScript_35 (by decide) hf (fun hf => ?_) (fun hf => ?_)
          · refine r_iconst (v := 0) C dX6_readScript_42 ?_
            exact (w_X6_readScript_43 l hinj hZ C out c0 c1 i0 i1 (f_X6_readScript_13 c0 c1 k61 N) ih N) x3 0 S25 H locs ls hf hw (lv_sub hl [0, 1, 3] rfl)
          · refine r_iconst (v := 1) C dX6_readScript_38 ?_
            refine lv_goto (tgt := 43) C.1.1 C.1.2.1 dX6_readScript_39 (by decide) ?_
            exact (w_X6_readScript_43 l hinj hZ C out c0 c1 i0 i1 (f_X6_readScript_13 c0 c1 k61 N) ih N) x3 1 S25 H locs ls hf hw (lv_sub hl [0, 1, 3] rfl)
set_option maxRecDepth 100000 in
set_option maxHeartbeats 4000000 in
theorem c_X6_readScript (l : Launch) (X : XT) (hinj : XInj X nC) (hZ : ZOK (Zc X)) (N : Nat) (S : S2) (c0 : Nat) (c1 : Nat) (i0 : Is6 c0) (i1 : Is7 c1) (out : Int × S2) (hf : f_X6_readScript N S c0 c1 = some out) : MI l X shC nC (Zc X) yX6_readScript cX6_readScript 4 (some .int) rmX6_readScript [.ref (X.2.2 c0), .ref (X.2.2 c1)] S out := by
  refine met_I (own := RX6) (by decide) rfl hinj hZ (Nat.le_of_ble_eq_true rfl) (fun p e s m args below meth c C ls H locs hw hl => ?_)
  unfold f_X6_readScript at hf
  have hl : lv_has ls 4 [(0, .ref (X.2.2 c0)), (1, .ref (X.2.2 c1))] := hl
  refine lv_aload_n C.1.1 C.1.2.1 dX6_readScript_0 rfl (lv_at hl 0 rfl) ?_
  refine r_callV (As := []) (rest := []) (rm := rmX6_begin) C hw (is6_s i0) (is6_l i0) cO6 tw2_127 tw2_129 tp_0 tw1_2 tw2_130 hd_X6_begin rfl ⟨⟨rfl, rfl⟩, Nat.le_of_ble_eq_true rfl, Nat.le_of_ble_eq_true rfl⟩ hl.1 rfl (Nat.le_of_ble_eq_true rfl) dX6_readScript_1 hf (fun o ho => c_X6_begin l X hinj hZ N S c0 i0 o ho) (fun S1 H locs hf hw => ?_)
  refine lv_aload_n C.1.1 C.1.2.1 dX6_readScript_4 rfl (lv_at hl 1 rfl) ?_
  refine r_iconst (v := 0) C dX6_readScript_5 ?_
  refine r_putI (k := 0) C hw (is7_s i1) (is7_l i1) cO7 rfl (by decide) tw2_2 rfl rfl rfl dX6_readScript_6 hf (fun S6 H locs hf hw => ?_)
  refine r_iconst (v := 1) C dX6_readScript_9 ?_
  refine lv_istore_n (lv' := [(2, .int (iz 1)), (0, .ref (X.2.2 c0)), (1, .ref (X.2.2 c1))]) C.1.1 C.1.2.1 dX6_readScript_10 rfl hl (by decide) rfl (fun ls hl => ?_)
  refine r_iconst (v := 1) C dX6_readScript_11 ?_
  refine lv_istore_n (lv' := [(3, .int (iz 1)), (2, .int (iz 1)), (0, .ref (X.2.2 c0)), (1, .ref (X.2.2 c1))]) C.1.1 C.1.2.1 dX6_readScript_12 rfl hl (by decide) rfl (fun ls hl => ?_)
  exact (w_X6_readScript_13 l hinj hZ C out c0 c1 i0 i1 (f_X6_readScript_61 c0 c1 N) (w_X6_readScript_61 l hinj hZ C out c0 c1 i0 i1 N) N) 1 1 S6 H locs ls hf hw (lv_sub hl [2, 3, 1, 0] rfl)
def f_X6_readClause_134 (c0 : Nat) (c1 : Nat) (c2 : Nat) (N : Nat) (S : S2) : Option (Int × S2) := gI S c0 4 fun v136 => bI (f_X6_fail N S c0 v136) fun v139 S139 => rZ v139 S139
def f_X6_readClause_110 (c0 : Nat) (c1 : Nat) (c2 : Nat) (N : Nat) (S : S2) : Option (Int × S2) := bI (f_X6_isWord N S c0 3) fun v113 S113 => cI v113 0 (if v113 = 0 then (f_X6_readClause_134 c0 c1 c2 N) S113 else gI S113 c2 0 fun v120 => cI v120 8 (if 8 ≤ v120 then (f_X6_readClause_134 c0 c1 c2 N) S113 else bI (f_X6_readLine N S113 c0 c2) fun v130 S130 => rZ v130 S130))
def f_X6_readClause_71 (c0 : Nat) (c1 : Nat) (c2 : Nat) (N : Nat) (S : S2) : Option (Int × S2) := bI (f_X6_isWord N S c0 2) fun v74 S74 => cI v74 0 (if v74 = 0 then (f_X6_readClause_110 c0 c1 c2 N) S74 else gI S74 c0 7 fun v81 => cI v81 0 (if v81 = 0 then uZ S74 c0 7 1 fun S89 => bI (f_X6_readNumber N S89 c0 0 9) fun v96 S96 => gI S96 c0 3 fun v102 => uI S96 c2 1 v102 fun S105 => rZ v96 S105 else (f_X6_readClause_110 c0 c1 c2 N) S74))
def f_X6_readClause_31 (c0 : Nat) (c1 : Nat) (c2 : Nat) (N : Nat) (S : S2) : Option (Int × S2) := bI (f_X6_isWord N S c0 1) fun v34 S34 => cI v34 0 (if v34 = 0 then (f_X6_readClause_71 c0 c1 c2 N) S34 else gI S34 c0 6 fun v41 => cI v41 0 (if v41 = 0 then uZ S34 c0 6 1 fun S49 => bI (f_X6_readNumber N S49 c0 0 999) fun v57 S57 => gI S57 c0 3 fun v63 => uI S57 c1 2 v63 fun S66 => rZ v57 S66 else (f_X6_readClause_71 c0 c1 c2 N) S34))
def f_X6_readClause (N : Nat) (S : S2) (c0 : Nat) (c1 : Nat) (c2 : Nat) : Option (Int × S2) := bI (f_X6_readWord N S c0) fun v1 S1 => cI v1 0 (if v1 = 0 then rZ 0 S1 else bI (f_X6_isWord N S1 c0 0) fun v12 S12 => cI v12 0 (if v12 = 0 then (f_X6_readClause_31 c0 c1 c2 N) S12 else gI S12 c1 1 fun v19 => cI v19 0 (if v19 = 0 then bI (f_X6_readSamples N S12 c0 c1) fun v27 S27 => rZ v27 S27 else (f_X6_readClause_31 c0 c1 c2 N) S12)))
abbrev rmX6_readClause : Room := { frames := 5, cells := 0, slots := 0, locals := 107 }
theorem hd_X6_readClause : yX6_readClause.cls ≠ "java/lang/invoke/MethodHandle" ∧ yX6_readClause.cls ≠ "java/lang/invoke/VarHandle" ∧ (parseMethodDescriptor yX6_readClause.desc).map (fun d => d.parameters.length) = some 2 := by decide +kernel
set_option maxRecDepth 100000 in
set_option maxHeartbeats 4000000 in
theorem w_X6_readClause_134 {p : Program} (l : Launch) {e : Env} {s : State} {m : MethodId} {args : Array Value} {below : List Frame} {meth : Method} {c : Code} {X : XT} (hinj : XInj X nC) (hZ : ZOK (Zc X)) (C : CX p s m args meth c cX6_readClause 4 RX6 (some .boolean) X nC (Zc X)) (out : Int × S2) (c0 : Nat) (c1 : Nat) (c2 : Nat) (i0 : Is6 c0) (i1 : Is0 c1) (i2 : Is3 c2) : ∀ (N : Nat), ∀ (S : S2) (H : Heap) (locs : List Loc) (ls : Array Slot), f_X6_readClause_134 c0 c1 c2 N S = some out → WH X shC nC s S H locs → lv_has ls 4 [(0, .ref (X.2.2 c0))] → W p l e rmX6_readClause s m args below meth c H locs 0 0 (QI X shC nC s args below out) (F0 m 134 ls []) := by
  intro N S H locs ls hf hw hl
  unfold f_X6_readClause_134 at hf
  refine lv_aload_n C.1.1 C.1.2.1 dX6_readClause_134 rfl (lv_at hl 0 rfl) ?_
  refine lv_aload_n C.1.1 C.1.2.1 dX6_readClause_135 rfl (lv_at hl 0 rfl) ?_
  refine r_getI (k := 4) C hw (is6_s i0) (is6_l i0) cO6 rfl (by decide) tw1_58 rfl dX6_readClause_136 hf (fun v136 hf => ?_)
  refine r_callI (As := [.int (iz v136)]) (rest := []) (rm := rmX6_fail) C hw (is6_s i0) (is6_l i0) cO6 tw2_152 tw2_154 tp_4 tw1_2 tw2_155 hd_X6_fail rfl ⟨⟨rfl, rfl⟩, Nat.le_of_ble_eq_true rfl, Nat.le_of_ble_eq_true rfl⟩ hl.1 rfl (Nat.le_of_ble_eq_true rfl) dX6_readClause_139 hf (fun o ho => c_X6_fail l X hinj hZ N S c0 v136 i0 o ho) (fun v139 S139 H locs hf hw => ?_)
  exact r_retZ C hw dX6_readClause_142 hf
set_option maxRecDepth 100000 in
set_option maxHeartbeats 4000000 in
theorem w_X6_readClause_110 {p : Program} (l : Launch) {e : Env} {s : State} {m : MethodId} {args : Array Value} {below : List Frame} {meth : Method} {c : Code} {X : XT} (hinj : XInj X nC) (hZ : ZOK (Zc X)) (C : CX p s m args meth c cX6_readClause 4 RX6 (some .boolean) X nC (Zc X)) (out : Int × S2) (c0 : Nat) (c1 : Nat) (c2 : Nat) (i0 : Is6 c0) (i1 : Is0 c1) (i2 : Is3 c2) : ∀ (N : Nat), ∀ (S : S2) (H : Heap) (locs : List Loc) (ls : Array Slot), f_X6_readClause_110 c0 c1 c2 N S = some out → WH X shC nC s S H locs → lv_has ls 4 [(0, .ref (X.2.2 c0)), (2, .ref (X.2.2 c2))] → W p l e rmX6_readClause s m args below meth c H locs 0 0 (QI X shC nC s args below out) (F0 m 110 ls []) := by
  intro N S H locs ls hf hw hl
  unfold f_X6_readClause_110 at hf
  refine lv_aload_n C.1.1 C.1.2.1 dX6_readClause_110 rfl (lv_at hl 0 rfl) ?_
  refine va_ldcS C.1.1 C.1.2.1 C.1.2.2.2.1 (zc_RX6_121 (zcC C)) dX6_readClause_111 ?_
  refine r_callI (As := [.ref (X.2.2 1003)]) (rest := []) (rm := rmX6_isWord) C hw (is6_s i0) (is6_l i0) cO6 tw2_157 tw2_159 tp_5 tw1_2 tw2_160 hd_X6_isWord rfl ⟨⟨rfl, rfl⟩, Nat.le_of_ble_eq_true rfl, Nat.le_of_ble_eq_true rfl⟩ hl.1 rfl (Nat.le_of_ble_eq_true rfl) dX6_readClause_113 hf (fun o ho => c_X6_isWord l X hinj hZ N S c0 3 i0 (by decide) o ho) (fun v113 S113 H locs hf hw => ?_)
  refine r_if_eq C (tgt := 134) dX6_readClause_116 (by decide) hf (fun hf => ?_) (fun hf => ?_)
  · exact (w_X6_readClause_134 l hinj hZ C out c0 c1 c2 i0 i1 i2 N) S113 H locs ls hf hw (lv_sub hl [0] rfl)
  · refine lv_aload_n C.1.1 C.1.2.1 dX6_readClause_119 rfl (lv_at hl 1 rfl) ?_
    refine r_getI (k := 0) C hw (is3_s i2) (is3_l i2) cO3 rfl (by decide) tw1_167 rfl dX6_readClause_120 hf (fun v120 hf => ?_)
    refine r_bipush (v := 8) C dX6_readClause_123 (by decide) ?_
    refine r_icmp_ge C (tgt := 134) dX6_readClause_125 (by decide) hf (fun hf => ?_) (fun hf => ?_)
    · exact (w_X6_readClause_134 l hinj hZ C out c0 c1 c2 i0 i1 i2 N) S113 H locs ls hf hw (lv_sub hl [0] rfl)
    · refine lv_aload_n C.1.1 C.1.2.1 dX6_readClause_128 rfl (lv_at hl 0 rfl) ?_
      refine lv_aload_n C.1.1 C.1.2.1 dX6_readClause_129 rfl (lv_at hl 1 rfl) ?_
      refine r_callI (As := [.ref (X.2.2 c2)]) (rest := []) (rm := rmX6_readLine) C hw (is6_s i0) (is6_l i0) cO6 tw2_224 tw2_226 tp_8 tw1_2 tw2_227 hd_X6_readLine rfl ⟨⟨rfl, rfl⟩, Nat.le_of_ble_eq_true rfl, Nat.le_of_ble_eq_true rfl⟩ hl.1 rfl (Nat.le_of_ble_eq_true rfl) dX6_readClause_130 hf (fun o ho => c_X6_readLine l X hinj hZ N S113 c0 c2 i0 i2 o ho) (fun v130 S130 H locs hf hw => ?_)
      exact r_retZ C hw dX6_readClause_133 hf
set_option maxRecDepth 100000 in
set_option maxHeartbeats 4000000 in
theorem w_X6_readClause_71 {p : Program} (l : Launch) {e : Env} {s : State} {m : MethodId} {args : Array Value} {below : List Frame} {meth : Method} {c : Code} {X : XT} (hinj : XInj X nC) (hZ : ZOK (Zc X)) (C : CX p s m args meth c cX6_readClause 4 RX6 (some .boolean) X nC (Zc X)) (out : Int × S2) (c0 : Nat) (c1 : Nat) (c2 : Nat) (i0 : Is6 c0) (i1 : Is0 c1) (i2 : Is3 c2) : ∀ (N : Nat), ∀ (S : S2) (H : Heap) (locs : List Loc) (ls : Array Slot), f_X6_readClause_71 c0 c1 c2 N S = some out → WH X shC nC s S H locs → lv_has ls 4 [(0, .ref (X.2.2 c0)), (2, .ref (X.2.2 c2))] → W p l e rmX6_readClause s m args below meth c H locs 0 0 (QI X shC nC s args below out) (F0 m 71 ls []) := by
  intro N S H locs ls hf hw hl
  unfold f_X6_readClause_71 at hf
  refine lv_aload_n C.1.1 C.1.2.1 dX6_readClause_71 rfl (lv_at hl 0 rfl) ?_
  refine va_ldcS C.1.1 C.1.2.1 C.1.2.2.2.1 (zc_RX6_120 (zcC C)) dX6_readClause_72 ?_
  refine r_callI (As := [.ref (X.2.2 1002)]) (rest := []) (rm := rmX6_isWord) C hw (is6_s i0) (is6_l i0) cO6 tw2_157 tw2_159 tp_5 tw1_2 tw2_160 hd_X6_isWord rfl ⟨⟨rfl, rfl⟩, Nat.le_of_ble_eq_true rfl, Nat.le_of_ble_eq_true rfl⟩ hl.1 rfl (Nat.le_of_ble_eq_true rfl) dX6_readClause_74 hf (fun o ho => c_X6_isWord l X hinj hZ N S c0 2 i0 (by decide) o ho) (fun v74 S74 H locs hf hw => ?_)
  refine r_if_eq C (tgt := 110) dX6_readClause_77 (by decide) hf (fun hf => ?_) (fun hf => ?_)
  · exact (w_X6_readClause_110 l hinj hZ C out c0 c1 c2 i0 i1 i2 N) S74 H locs ls hf hw (lv_sub hl [0, 1] rfl)
  · refine lv_aload_n C.1.1 C.1.2.1 dX6_readClause_80 rfl (lv_at hl 0 rfl) ?_
    refine r_getI (k := 7) C hw (is6_s i0) (is6_l i0) cO6 rfl (by decide) tw1_61 rfl dX6_readClause_81 hf (fun v81 hf => ?_)
    refine r_if_ne C (tgt := 110) dX6_readClause_84 (by decide) hf (fun hf => ?_) (fun hf => ?_)
    · exact (w_X6_readClause_110 l hinj hZ C out c0 c1 c2 i0 i1 i2 N) S74 H locs ls hf hw (lv_sub hl [0, 1] rfl)
    · refine lv_aload_n C.1.1 C.1.2.1 dX6_readClause_87 rfl (lv_at hl 0 rfl) ?_
      refine r_iconst (v := 1) C dX6_readClause_88 ?_
      refine r_putZ (k := 7) C hw (is6_s i0) (is6_l i0) cO6 rfl (by decide) tw1_61 rfl rfl rfl dX6_readClause_89 hf (fun S89 H locs hf hw => ?_)
      refine lv_aload_n C.1.1 C.1.2.1 dX6_readClause_92 rfl (lv_at hl 0 rfl) ?_
      refine r_iconst (v := 0) C dX6_readClause_93 ?_
      refine r_bipush (v := 9) C dX6_readClause_94 (by decide) ?_
      refine r_callI (As := [.int (iz 0), .int (iz 9)]) (rest := []) (rm := rmX6_readNumber) C hw (is6_s i0) (is6_l i0) cO6 tw2_213 tw2_215 tp_7 tw1_2 tw2_216 hd_X6_readNumber rfl ⟨⟨rfl, rfl⟩, Nat.le_of_ble_eq_true rfl, Nat.le_of_ble_eq_true rfl⟩ hl.1 rfl (Nat.le_of_ble_eq_true rfl) dX6_readClause_96 hf (fun o ho => c_X6_readNumber l X hinj hZ N S89 c0 0 9 i0 o ho) (fun v96 S96 H locs hf hw => ?_)
      refine lv_istore_n (lv' := [(3, .int (iz v96)), (0, .ref (X.2.2 c0)), (2, .ref (X.2.2 c2))]) C.1.1 C.1.2.1 dX6_readClause_99 rfl hl (by decide) rfl (fun ls hl => ?_)
      refine lv_aload_n C.1.1 C.1.2.1 dX6_readClause_100 rfl (lv_at hl 2 rfl) ?_
      refine lv_aload_n C.1.1 C.1.2.1 dX6_readClause_101 rfl (lv_at hl 1 rfl) ?_
      refine r_getI (k := 3) C hw (is6_s i0) (is6_l i0) cO6 rfl (by decide) tw1_57 rfl dX6_readClause_102 hf (fun v102 hf => ?_)
      refine r_putI (k := 1) C hw (is3_s i2) (is3_l i2) cO3 rfl (by decide) tw1_170 rfl rfl rfl dX6_readClause_105 hf (fun S105 H locs hf hw => ?_)
      refine lv_iload_n C.1.1 C.1.2.1 dX6_readClause_108 rfl (lv_at hl 0 rfl) ?_
      exact r_retZ C hw dX6_readClause_109 hf
set_option maxRecDepth 100000 in
set_option maxHeartbeats 4000000 in
theorem w_X6_readClause_31 {p : Program} (l : Launch) {e : Env} {s : State} {m : MethodId} {args : Array Value} {below : List Frame} {meth : Method} {c : Code} {X : XT} (hinj : XInj X nC) (hZ : ZOK (Zc X)) (C : CX p s m args meth c cX6_readClause 4 RX6 (some .boolean) X nC (Zc X)) (out : Int × S2) (c0 : Nat) (c1 : Nat) (c2 : Nat) (i0 : Is6 c0) (i1 : Is0 c1) (i2 : Is3 c2) : ∀ (N : Nat), ∀ (S : S2) (H : Heap) (locs : List Loc) (ls : Array Slot), f_X6_readClause_31 c0 c1 c2 N S = some out → WH X shC nC s S H locs → lv_has ls 4 [(0, .ref (X.2.2 c0)), (1, .ref (X.2.2 c1)), (2, .ref (X.2.2 c2))] → W p l e rmX6_readClause s m args below meth c H locs 0 0 (QI X shC nC s args below out) (F0 m 31 ls []) := by
  intro N S H locs ls hf hw hl
  unfold f_X6_readClause_31 at hf
  refine lv_aload_n C.1.1 C.1.2.1 dX6_readClause_31 rfl (lv_at hl 0 rfl) ?_
  refine va_ldcS C.1.1 C.1.2.1 C.1.2.2.2.1 (zc_RX6_115 (zcC C)) dX6_readClause_32 ?_
  refine r_callI (As := [.ref (X.2.2 1001)]) (rest := []) (rm := rmX6_isWord) C hw (is6_s i0) (is6_l i0) cO6 tw2_157 tw2_159 tp_5 tw1_2 tw2_160 hd_X6_isWord rfl ⟨⟨rfl, rfl⟩, Nat.le_of_ble_eq_true rfl, Nat.le_of_ble_eq_true rfl⟩ hl.1 rfl (Nat.le_of_ble_eq_true rfl) dX6_readClause_34 hf (fun o ho => c_X6_isWord l X hinj hZ N S c0 1 i0 (by decide) o ho) (fun v34 S34 H locs hf hw => ?_)
  refine r_if_eq C (tgt := 71) dX6_readClause_37 (by decide) hf (fun hf => ?_) (fun hf => ?_)
  · exact (w_X6_readClause_71 l hinj hZ C out c0 c1 c2 i0 i1 i2 N) S34 H locs ls hf hw (lv_sub hl [0, 2] rfl)
  · refine lv_aload_n C.1.1 C.1.2.1 dX6_readClause_40 rfl (lv_at hl 0 rfl) ?_
    refine r_getI (k := 6) C hw (is6_s i0) (is6_l i0) cO6 rfl (by decide) tw1_60 rfl dX6_readClause_41 hf (fun v41 hf => ?_)
    refine r_if_ne C (tgt := 71) dX6_readClause_44 (by decide) hf (fun hf => ?_) (fun hf => ?_)
    · exact (w_X6_readClause_71 l hinj hZ C out c0 c1 c2 i0 i1 i2 N) S34 H locs ls hf hw (lv_sub hl [0, 2] rfl)
    · refine lv_aload_n C.1.1 C.1.2.1 dX6_readClause_47 rfl (lv_at hl 0 rfl) ?_
      refine r_iconst (v := 1) C dX6_readClause_48 ?_
      refine r_putZ (k := 6) C hw (is6_s i0) (is6_l i0) cO6 rfl (by decide) tw1_60 rfl rfl rfl dX6_readClause_49 hf (fun S49 H locs hf hw => ?_)
      refine lv_aload_n C.1.1 C.1.2.1 dX6_readClause_52 rfl (lv_at hl 0 rfl) ?_
      refine r_iconst (v := 0) C dX6_readClause_53 ?_
      refine r_sipush (v := 999) C dX6_readClause_54 (by decide) ?_
      refine r_callI (As := [.int (iz 0), .int (iz 999)]) (rest := []) (rm := rmX6_readNumber) C hw (is6_s i0) (is6_l i0) cO6 tw2_213 tw2_215 tp_7 tw1_2 tw2_216 hd_X6_readNumber rfl ⟨⟨rfl, rfl⟩, Nat.le_of_ble_eq_true rfl, Nat.le_of_ble_eq_true rfl⟩ hl.1 rfl (Nat.le_of_ble_eq_true rfl) dX6_readClause_57 hf (fun o ho => c_X6_readNumber l X hinj hZ N S49 c0 0 999 i0 o ho) (fun v57 S57 H locs hf hw => ?_)
      refine lv_istore_n (lv' := [(3, .int (iz v57)), (0, .ref (X.2.2 c0)), (1, .ref (X.2.2 c1)), (2, .ref (X.2.2 c2))]) C.1.1 C.1.2.1 dX6_readClause_60 rfl hl (by decide) rfl (fun ls hl => ?_)
      refine lv_aload_n C.1.1 C.1.2.1 dX6_readClause_61 rfl (lv_at hl 2 rfl) ?_
      refine lv_aload_n C.1.1 C.1.2.1 dX6_readClause_62 rfl (lv_at hl 1 rfl) ?_
      refine r_getI (k := 3) C hw (is6_s i0) (is6_l i0) cO6 rfl (by decide) tw1_57 rfl dX6_readClause_63 hf (fun v63 hf => ?_)
      refine r_putI (k := 2) C hw (is0_s i1) (is0_l i1) cO0 rfl (by decide) tw1_94 rfl rfl rfl dX6_readClause_66 hf (fun S66 H locs hf hw => ?_)
      refine lv_iload_n C.1.1 C.1.2.1 dX6_readClause_69 rfl (lv_at hl 0 rfl) ?_
      exact r_retZ C hw dX6_readClause_70 hf
set_option maxRecDepth 100000 in
set_option maxHeartbeats 4000000 in
theorem c_X6_readClause (l : Launch) (X : XT) (hinj : XInj X nC) (hZ : ZOK (Zc X)) (N : Nat) (S : S2) (c0 : Nat) (c1 : Nat) (c2 : Nat) (i0 : Is6 c0) (i1 : Is0 c1) (i2 : Is3 c2) (out : Int × S2) (hf : f_X6_readClause N S c0 c1 c2 = some out) : MI l X shC nC (Zc X) yX6_readClause cX6_readClause 4 (some .boolean) rmX6_readClause [.ref (X.2.2 c0), .ref (X.2.2 c1), .ref (X.2.2 c2)] S out := by
  refine met_I (own := RX6) (by decide) rfl hinj hZ (Nat.le_of_ble_eq_true rfl) (fun p e s m args below meth c C ls H locs hw hl => ?_)
  unfold f_X6_readClause at hf
  have hl : lv_has ls 4 [(0, .ref (X.2.2 c0)), (1, .ref (X.2.2 c1)), (2, .ref (X.2.2 c2))] := hl
  refine lv_aload_n C.1.1 C.1.2.1 dX6_readClause_0 rfl (lv_at hl 0 rfl) ?_
  refine r_callI (As := []) (rest := []) (rm := rmX6_readWord) C hw (is6_s i0) (is6_l i0) cO6 tw2_135 tw2_137 tp_2 tw1_2 tw2_138 hd_X6_readWord rfl ⟨⟨rfl, rfl⟩, Nat.le_of_ble_eq_true rfl, Nat.le_of_ble_eq_true rfl⟩ hl.1 rfl (Nat.le_of_ble_eq_true rfl) dX6_readClause_1 hf (fun o ho => c_X6_readWord l X hinj hZ N S c0 i0 o ho) (fun v1 S1 H locs hf hw => ?_)
  refine r_if_ne C (tgt := 9) dX6_readClause_4 (by decide) hf (fun hf => ?_) (fun hf => ?_)
  · refine lv_aload_n C.1.1 C.1.2.1 dX6_readClause_9 rfl (lv_at hl 0 rfl) ?_
    refine va_ldcS C.1.1 C.1.2.1 C.1.2.2.2.1 (zc_RX6_105 (zcC C)) dX6_readClause_10 ?_
    refine r_callI (As := [.ref (X.2.2 1000)]) (rest := []) (rm := rmX6_isWord) C hw (is6_s i0) (is6_l i0) cO6 tw2_157 tw2_159 tp_5 tw1_2 tw2_160 hd_X6_isWord rfl ⟨⟨rfl, rfl⟩, Nat.le_of_ble_eq_true rfl, Nat.le_of_ble_eq_true rfl⟩ hl.1 rfl (Nat.le_of_ble_eq_true rfl) dX6_readClause_12 hf (fun o ho => c_X6_isWord l X hinj hZ N S1 c0 0 i0 (by decide) o ho) (fun v12 S12 H locs hf hw => ?_)
    refine r_if_eq C (tgt := 31) dX6_readClause_15 (by decide) hf (fun hf => ?_) (fun hf => ?_)
    · exact (w_X6_readClause_31 l hinj hZ C out c0 c1 c2 i0 i1 i2 N) S12 H locs ls hf hw (lv_sub hl [0, 1, 2] rfl)
    · refine lv_aload_n C.1.1 C.1.2.1 dX6_readClause_18 rfl (lv_at hl 1 rfl) ?_
      refine r_getI (k := 1) C hw (is0_s i1) (is0_l i1) cO0 rfl (by decide) tw1_90 rfl dX6_readClause_19 hf (fun v19 hf => ?_)
      refine r_if_ne C (tgt := 31) dX6_readClause_22 (by decide) hf (fun hf => ?_) (fun hf => ?_)
      · exact (w_X6_readClause_31 l hinj hZ C out c0 c1 c2 i0 i1 i2 N) S12 H locs ls hf hw (lv_sub hl [0, 1, 2] rfl)
      · refine lv_aload_n C.1.1 C.1.2.1 dX6_readClause_25 rfl (lv_at hl 0 rfl) ?_
        refine lv_aload_n C.1.1 C.1.2.1 dX6_readClause_26 rfl (lv_at hl 1 rfl) ?_
        refine r_callI (As := [.ref (X.2.2 c1)]) (rest := []) (rm := rmX6_readSamples) C hw (is6_s i0) (is6_l i0) cO6 tw2_209 tw2_211 tp_6 tw1_2 tw2_212 hd_X6_readSamples rfl ⟨⟨rfl, rfl⟩, Nat.le_of_ble_eq_true rfl, Nat.le_of_ble_eq_true rfl⟩ hl.1 rfl (Nat.le_of_ble_eq_true rfl) dX6_readClause_27 hf (fun o ho => c_X6_readSamples l X hinj hZ N S12 c0 c1 i0 i1 o ho) (fun v27 S27 H locs hf hw => ?_)
        exact r_retZ C hw dX6_readClause_30 hf
  · refine r_iconst (v := 0) C dX6_readClause_7 ?_
    exact r_retZ C hw dX6_readClause_8 hf
def f_X6_readTrace_96 (c0 : Nat) (c1 : Nat) (c2 : Nat) (N : Nat) (S : S2) : Option (Int × S2) := gI S c0 2 fun v97 => rI v97 S
def f_X6_readTrace_70 (c0 : Nat) (c1 : Nat) (c2 : Nat) (N : Nat) (S : S2) : Option (Int × S2) := gI S c0 2 fun v71 => cI v71 (-1) (if v71 = (-1) then gI S c1 1 fun v79 => cI v79 0 (if v79 = 0 then gI S (c0 + 1) 1 fun v90 => uI S c0 2 v90 fun S93 => (f_X6_readTrace_96 c0 c1 c2 N) S93 else (f_X6_readTrace_96 c0 c1 c2 N) S) else (f_X6_readTrace_96 c0 c1 c2 N) S)
def f_X6_readTrace_63 (c0 : Nat) (c1 : Nat) (c2 : Nat) (k29 : Int → Int → S2 → Option (Int × S2)) (N : Nat) (x4 : Int) (y0 : Int) (S : S2) : Option (Int × S2) := k29 y0 (x4 + 1) S
def f_X6_readTrace_62 (c0 : Nat) (c1 : Nat) (c2 : Nat) (k29 : Int → Int → S2 → Option (Int × S2)) (N : Nat) (x4 : Int) (S : S2) : Option (Int × S2) := (f_X6_readTrace_63 c0 c1 c2 k29 N) x4 0 S
def f_X6_readTrace_29 (c0 : Nat) (c1 : Nat) (c2 : Nat) (k70 : S2 → Option (Int × S2)) : Nat → Int → Int → S2 → Option (Int × S2)
  | 0, _, _, _ => none
  | N + 1, x3, x4, S => cI x3 0 (if x3 = 0 then k70 S else cI x4 400 (if 400 < x4 then k70 S else bI (f_X6_readClause N S c0 c1 c2) fun v44 S44 => cI v44 0 (if v44 = 0 then (f_X6_readTrace_62 c0 c1 c2 (f_X6_readTrace_29 c0 c1 c2 k70 N) N) x4 S44 else bI (f_X6_readSemicolon N S44 c0 1) fun v52 S52 => cI v52 0 (if v52 = 0 then (f_X6_readTrace_62 c0 c1 c2 (f_X6_readTrace_29 c0 c1 c2 k70 N) N) x4 S52 else (f_X6_readTrace_63 c0 c1 c2 (f_X6_readTrace_29 c0 c1 c2 k70 N) N) x4 1 S52))))
def f_X6_readTrace (N : Nat) (S : S2) (c0 : Nat) (c1 : Nat) (c2 : Nat) : Option (Int × S2) := bV (f_X6_begin N S c0) fun S1 => uI S1 c1 1 0 fun S6 => uI S6 c1 2 0 fun S11 => uI S11 c2 0 0 fun S16 => uI S16 c2 1 1 fun S21 => (f_X6_readTrace_29 c0 c1 c2 (f_X6_readTrace_70 c0 c1 c2 N) N) 1 0 S21
abbrev rmX6_readTrace : Room := { frames := 6, cells := 0, slots := 0, locals := 130 }
theorem hd_X6_readTrace : yX6_readTrace.cls ≠ "java/lang/invoke/MethodHandle" ∧ yX6_readTrace.cls ≠ "java/lang/invoke/VarHandle" ∧ (parseMethodDescriptor yX6_readTrace.desc).map (fun d => d.parameters.length) = some 2 := by decide +kernel
set_option maxRecDepth 100000 in
set_option maxHeartbeats 4000000 in
theorem w_X6_readTrace_96 {p : Program} (l : Launch) {e : Env} {s : State} {m : MethodId} {args : Array Value} {below : List Frame} {meth : Method} {c : Code} {X : XT} (hinj : XInj X nC) (hZ : ZOK (Zc X)) (C : CX p s m args meth c cX6_readTrace 5 RX6 (some .int) X nC (Zc X)) (out : Int × S2) (c0 : Nat) (c1 : Nat) (c2 : Nat) (i0 : Is6 c0) (i1 : Is0 c1) (i2 : Is3 c2) : ∀ (N : Nat), ∀ (S : S2) (H : Heap) (locs : List Loc) (ls : Array Slot), f_X6_readTrace_96 c0 c1 c2 N S = some out → WH X shC nC s S H locs → lv_has ls 5 [(0, .ref (X.2.2 c0))] → W p l e rmX6_readTrace s m args below meth c H locs 0 0 (QI X shC nC s args below out) (F0 m 96 ls []) := by
  intro N S H locs ls hf hw hl
  unfold f_X6_readTrace_96 at hf
  refine lv_aload_n C.1.1 C.1.2.1 dX6_readTrace_96 rfl (lv_at hl 0 rfl) ?_
  refine r_getI (k := 2) C hw (is6_s i0) (is6_l i0) cO6 rfl (by decide) tw1_56 rfl dX6_readTrace_97 hf (fun v97 hf => ?_)
  exact r_retI C hw dX6_readTrace_100 hf
set_option maxRecDepth 100000 in
set_option maxHeartbeats 4000000 in
theorem w_X6_readTrace_70 {p : Program} (l : Launch) {e : Env} {s : State} {m : MethodId} {args : Array Value} {below : List Frame} {meth : Method} {c : Code} {X : XT} (hinj : XInj X nC) (hZ : ZOK (Zc X)) (C : CX p s m args meth c cX6_readTrace 5 RX6 (some .int) X nC (Zc X)) (out : Int × S2) (c0 : Nat) (c1 : Nat) (c2 : Nat) (i0 : Is6 c0) (i1 : Is0 c1) (i2 : Is3 c2) : ∀ (N : Nat), ∀ (S : S2) (H : Heap) (locs : List Loc) (ls : Array Slot), f_X6_readTrace_70 c0 c1 c2 N S = some out → WH X shC nC s S H locs → lv_has ls 5 [(0, .ref (X.2.2 c0)), (1, .ref (X.2.2 c1))] → W p l e rmX6_readTrace s m args below meth c H locs 0 0 (QI X shC nC s args below out) (F0 m 70 ls []) := by
  intro N S H locs ls hf hw hl
  unfold f_X6_readTrace_70 at hf
  refine lv_aload_n C.1.1 C.1.2.1 dX6_readTrace_70 rfl (lv_at hl 0 rfl) ?_
  refine r_getI (k := 2) C hw (is6_s i0) (is6_l i0) cO6 rfl (by decide) tw1_56 rfl dX6_readTrace_71 hf (fun v71 hf => ?_)
  refine r_iconst (v := (-1)) C dX6_readTrace_74 ?_
  refine r_icmp_ne C (tgt := 96) dX6_readTrace_75 (by decide) hf (fun hf => ?_) (fun hf => ?_)
  · exact (w_X6_readTrace_96 l hinj hZ C out c0 c1 c2 i0 i1 i2 N) S H locs ls hf hw (lv_sub hl [0] rfl)
  · refine lv_aload_n C.1.1 C.1.2.1 dX6_readTrace_78 rfl (lv_at hl 1 rfl) ?_
    refine r_getI (k := 1) C hw (is0_s i1) (is0_l i1) cO0 rfl (by decide) tw1_90 rfl dX6_readTrace_79 hf (fun v79 hf => ?_)
    refine r_if_ne C (tgt := 96) dX6_readTrace_82 (by decide) hf (fun hf => ?_) (fun hf => ?_)
    · exact (w_X6_readTrace_96 l hinj hZ C out c0 c1 c2 i0 i1 i2 N) S H locs ls hf hw (lv_sub hl [0] rfl)
    · refine lv_aload_n C.1.1 C.1.2.1 dX6_readTrace_85 rfl (lv_at hl 0 rfl) ?_
      refine lv_aload_n C.1.1 C.1.2.1 dX6_readTrace_86 rfl (lv_at hl 0 rfl) ?_
      refine r_getR (k := 0) C hw (is6_s i0) (is6_l i0) cO6 rfl (by decide) tw1_53 rfl dX6_readTrace_87 ?_
      refine r_getI (k := 1) C hw (is9_s (is6_o1 i0)) (is9_l (is6_o1 i0)) cO9 rfl (by decide) tw1_46 rfl dX6_readTrace_90 hf (fun v90 hf => ?_)
      refine r_putI (k := 2) C hw (is6_s i0) (is6_l i0) cO6 rfl (by decide) tw1_56 rfl rfl rfl dX6_readTrace_93 hf (fun S93 H locs hf hw => ?_)
      exact (w_X6_readTrace_96 l hinj hZ C out c0 c1 c2 i0 i1 i2 N) S93 H locs ls hf hw (lv_sub hl [0] rfl)
set_option maxRecDepth 100000 in
set_option maxHeartbeats 4000000 in
theorem w_X6_readTrace_63 {p : Program} (l : Launch) {e : Env} {s : State} {m : MethodId} {args : Array Value} {below : List Frame} {meth : Method} {c : Code} {X : XT} (hinj : XInj X nC) (hZ : ZOK (Zc X)) (C : CX p s m args meth c cX6_readTrace 5 RX6 (some .int) X nC (Zc X)) (out : Int × S2) (c0 : Nat) (c1 : Nat) (c2 : Nat) (i0 : Is6 c0) (i1 : Is0 c1) (i2 : Is3 c2) (k29 : Int → Int → S2 → Option (Int × S2)) (hk29 : ∀ (x3 : Int) (x4 : Int) (S : S2) (H : Heap) (locs : List Loc) (ls : Array Slot), k29 x3 x4 S = some out → WH X shC nC s S H locs → lv_has ls 5 [(0, .ref (X.2.2 c0)), (1, .ref (X.2.2 c1)), (2, .ref (X.2.2 c2)), (3, .int (iz x3)), (4, .int (iz x4))] → W p l e rmX6_readTrace s m args below meth c H locs 0 0 (QI X shC nC s args below out) (F0 m 29 ls [])) : ∀ (N : Nat), ∀ (x4 : Int) (y0 : Int) (S : S2) (H : Heap) (locs : List Loc) (ls : Array Slot), f_X6_readTrace_63 c0 c1 c2 k29 N x4 y0 S = some out → WH X shC nC s S H locs → lv_has ls 5 [(0, .ref (X.2.2 c0)), (1, .ref (X.2.2 c1)), (2, .ref (X.2.2 c2)), (4, .int (iz x4))] → W p l e rmX6_readTrace s m args below meth c H locs 0 0 (QI X shC nC s args below out) (F0 m 63 ls [.int (iz y0)]) := by
  intro N x4 y0 S H locs ls hf hw hl
  unfold f_X6_readTrace_63 at hf
  refine lv_istore_n (lv' := [(3, .int (iz y0)), (0, .ref (X.2.2 c0)), (1, .ref (X.2.2 c1)), (2, .ref (X.2.2 c2)), (4, .int (iz x4))]) C.1.1 C.1.2.1 dX6_readTrace_63 rfl hl (by decide) rfl (fun ls hl => ?_)
  refine lv_iinc (v := iz (x4 + 1)) (lv' := [(4, .int (iz (x4 + 1))), (3, .int (iz y0)), (0, .ref (X.2.2 c0)), (1, .ref (X.2.2 c1)), (2, .ref (X.2.2 c2))]) C.1.1 C.1.2.1 dX6_readTrace_64 hl (k := 4) rfl (iz_add _ _) (by decide) rfl (fun ls hl => ?_)
  refine lv_goto (tgt := 29) C.1.1 C.1.2.1 dX6_readTrace_67 (by decide) ?_
  exact hk29 y0 (x4 + 1) S H locs ls hf hw (lv_sub hl [2, 3, 4, 1, 0] rfl)
set_option maxRecDepth 100000 in
set_option maxHeartbeats 4000000 in
theorem w_X6_readTrace_62 {p : Program} (l : Launch) {e : Env} {s : State} {m : MethodId} {args : Array Value} {below : List Frame} {meth : Method} {c : Code} {X : XT} (hinj : XInj X nC) (hZ : ZOK (Zc X)) (C : CX p s m args meth c cX6_readTrace 5 RX6 (some .int) X nC (Zc X)) (out : Int × S2) (c0 : Nat) (c1 : Nat) (c2 : Nat) (i0 : Is6 c0) (i1 : Is0 c1) (i2 : Is3 c2) (k29 : Int → Int → S2 → Option (Int × S2)) (hk29 : ∀ (x3 : Int) (x4 : Int) (S : S2) (H : Heap) (locs : List Loc) (ls : Array Slot), k29 x3 x4 S = some out → WH X shC nC s S H locs → lv_has ls 5 [(0, .ref (X.2.2 c0)), (1, .ref (X.2.2 c1)), (2, .ref (X.2.2 c2)), (3, .int (iz x3)), (4, .int (iz x4))] → W p l e rmX6_readTrace s m args below meth c H locs 0 0 (QI X shC nC s args below out) (F0 m 29 ls [])) : ∀ (N : Nat), ∀ (x4 : Int) (S : S2) (H : Heap) (locs : List Loc) (ls : Array Slot), f_X6_readTrace_62 c0 c1 c2 k29 N x4 S = some out → WH X shC nC s S H locs → lv_has ls 5 [(0, .ref (X.2.2 c0)), (1, .ref (X.2.2 c1)), (2, .ref (X.2.2 c2)), (4, .int (iz x4))] → W p l e rmX6_readTrace s m args below meth c H locs 0 0 (QI X shC nC s args below out) (F0 m 62 ls []) := by
  intro N x4 S H locs ls hf hw hl
  unfold f_X6_readTrace_62 at hf
  refine r_iconst (v := 0) C dX6_readTrace_62 ?_
  exact (w_X6_readTrace_63 l hinj hZ C out c0 c1 c2 i0 i1 i2 k29 hk29 N) x4 0 S H locs ls hf hw (lv_sub hl [0, 1, 2, 3] rfl)
set_option maxRecDepth 100000 in
set_option maxHeartbeats 4000000 in
theorem w_X6_readTrace_29 {p : Program} (l : Launch) {e : Env} {s : State} {m : MethodId} {args : Array Value} {below : List Frame} {meth : Method} {c : Code} {X : XT} (hinj : XInj X nC) (hZ : ZOK (Zc X)) (C : CX p s m args meth c cX6_readTrace 5 RX6 (some .int) X nC (Zc X)) (out : Int × S2) (c0 : Nat) (c1 : Nat) (c2 : Nat) (i0 : Is6 c0) (i1 : Is0 c1) (i2 : Is3 c2) (k70 : S2 → Option (Int × S2)) (hk70 : ∀ (S : S2) (H : Heap) (locs : List Loc) (ls : Array Slot), k70 S = some out → WH X shC nC s S H locs → lv_has ls 5 [(0, .ref (X.2.2 c0)), (1, .ref (X.2.2 c1))] → W p l e rmX6_readTrace s m args below meth c H locs 0 0 (QI X shC nC s args below out) (F0 m 70 ls [])) : ∀ (N : Nat), ∀ (x3 : Int) (x4 : Int) (S : S2) (H : Heap) (locs : List Loc) (ls : Array Slot), f_X6_readTrace_29 c0 c1 c2 k70 N x3 x4 S = some out → WH X shC nC s S H locs → lv_has ls 5 [(0, .ref (X.2.2 c0)), (1, .ref (X.2.2 c1)), (2, .ref (X.2.2 c2)), (3, .int (iz x3)), (4, .int (iz x4))] → W p l e rmX6_readTrace s m args below meth c H locs 0 0 (QI X shC nC s args below out) (F0 m 29 ls []) := by
  intro N
  induction N with
  | zero => intro x3 x4 S H locs ls hf hw hl; cases hf
  | succ N ih =>
    intro x3 x4 S H locs ls hf hw hl
    rw [f_X6_readTrace_29.eq_2] at hf
    refine lv_iload_n C.1.1 C.1.2.1 dX6_readTrace_29 rfl (lv_at hl 3 rfl) ?_
    refine r_if_eq C (tgt := 70) dX6_readTrace_30 (by decide) hf (fun hf => ?_) (fun hf => ?_)
    · exact hk70 S H locs ls hf hw (lv_sub hl [0, 1] rfl)
    · refine lv_iload C.1.1 C.1.2.1 dX6_readTrace_33 (lv_at hl 4 rfl) ?_
      refine r_sipush (v := 400) C dX6_readTrace_35 (by decide) ?_
      refine r_icmp_gt C (tgt := 70) dX6_readTrace_38 (by decide) hf (fun hf => ?_) (fun hf => ?_)
      · exact hk70 S H locs ls hf hw (lv_sub hl [0, 1] rfl)
      · refine lv_aload_n C.1.1 C.1.2.1 dX6_readTrace_41 rfl (lv_at hl 0 rfl) ?_
        refine lv_aload_n C.1.1 C.1.2.1 dX6_readTrace_42 rfl (lv_at hl 1 rfl) ?_
        refine lv_aload_n C.1.1 C.1.2.1 dX6_readTrace_43 rfl (lv_at hl 2 rfl) ?_
        refine r_callI (As := [.ref (X.2.2 c1), .ref (X.2.2 c2)]) (rest := []) (rm := rmX6_readClause) C hw (is6_s i0) (is6_l i0) cO6 tw2_131 tw2_133 tp_1 tw1_2 tw2_134 hd_X6_readClause rfl ⟨⟨rfl, rfl⟩, Nat.le_of_ble_eq_true rfl, Nat.le_of_ble_eq_true rfl⟩ hl.1 rfl (Nat.le_of_ble_eq_true rfl) dX6_readTrace_44 hf (fun o ho => c_X6_readClause l X hinj hZ N S c0 c1 c2 i0 i1 i2 o ho) (fun v44 S44 H locs hf hw => ?_)
        refine r_if_eq C (tgt := 62) dX6_readTrace_47 (by decide) hf (fun hf => ?_) (fun hf => ?_)
        · exact (w_X6_readTrace_62 l hinj hZ C out c0 c1 c2 i0 i1 i2 (f_X6_readTrace_29 c0 c1 c2 k70 N) ih N) x4 S44 H locs ls hf hw (lv_sub hl [0, 1, 2, 4] rfl)
        · refine lv_aload_n C.1.1 C.1.2.1 dX6_readTrace_50 rfl (lv_at hl 0 rfl) ?_
          refine r_iconst (v := 1) C dX6_readTrace_51 ?_
          refine r_callI (As := [.int (iz 1)]) (rest := []) (rm := rmX6_readSemicolon) C hw (is6_s i0) (is6_l i0) cO6 tw3_5 tw3_7 tp_10 tw1_2 tw3_8 hd_X6_readSemicolon rfl ⟨⟨rfl, rfl⟩, Nat.le_of_ble_eq_true rfl, Nat.le_of_ble_eq_true rfl⟩ hl.1 rfl (Nat.le_of_ble_eq_true rfl) dX6_readTrace_52 hf (fun o ho => c_X6_readSemicolon l X hinj hZ N S44 c0 1 i0 o ho) (fun v52 S52 H locs hf hw => ?_)
          refine r_if_eq C (tgt := 62) dX6_readTrace_55 (by decide) hf (fun hf => ?_) (fun hf => ?_)
          · exact (w_X6_readTrace_62 l hinj hZ C out c0 c1 c2 i0 i1 i2 (f_X6_readTrace_29 c0 c1 c2 k70 N) ih N) x4 S52 H locs ls hf hw (lv_sub hl [0, 1, 2, 4] rfl)
          · refine r_iconst (v := 1) C dX6_readTrace_58 ?_
            refine lv_goto (tgt := 63) C.1.1 C.1.2.1 dX6_readTrace_59 (by decide) ?_
            exact (w_X6_readTrace_63 l hinj hZ C out c0 c1 c2 i0 i1 i2 (f_X6_readTrace_29 c0 c1 c2 k70 N) ih N) x4 1 S52 H locs ls hf hw (lv_sub hl [0, 1, 2, 4] rfl)
set_option maxRecDepth 100000 in
set_option maxHeartbeats 4000000 in
theorem c_X6_readTrace (l : Launch) (X : XT) (hinj : XInj X nC) (hZ : ZOK (Zc X)) (N : Nat) (S : S2) (c0 : Nat) (c1 : Nat) (c2 : Nat) (i0 : Is6 c0) (i1 : Is0 c1) (i2 : Is3 c2) (out : Int × S2) (hf : f_X6_readTrace N S c0 c1 c2 = some out) : MI l X shC nC (Zc X) yX6_readTrace cX6_readTrace 5 (some .int) rmX6_readTrace [.ref (X.2.2 c0), .ref (X.2.2 c1), .ref (X.2.2 c2)] S out := by
  refine met_I (own := RX6) (by decide) rfl hinj hZ (Nat.le_of_ble_eq_true rfl) (fun p e s m args below meth c C ls H locs hw hl => ?_)
  unfold f_X6_readTrace at hf
  have hl : lv_has ls 5 [(0, .ref (X.2.2 c0)), (1, .ref (X.2.2 c1)), (2, .ref (X.2.2 c2))] := hl
  refine lv_aload_n C.1.1 C.1.2.1 dX6_readTrace_0 rfl (lv_at hl 0 rfl) ?_
  refine r_callV (As := []) (rest := []) (rm := rmX6_begin) C hw (is6_s i0) (is6_l i0) cO6 tw2_127 tw2_129 tp_0 tw1_2 tw2_130 hd_X6_begin rfl ⟨⟨rfl, rfl⟩, Nat.le_of_ble_eq_true rfl, Nat.le_of_ble_eq_true rfl⟩ hl.1 rfl (Nat.le_of_ble_eq_true rfl) dX6_readTrace_1 hf (fun o ho => c_X6_begin l X hinj hZ N S c0 i0 o ho) (fun S1 H locs hf hw => ?_)
  refine lv_aload_n C.1.1 C.1.2.1 dX6_readTrace_4 rfl (lv_at hl 1 rfl) ?_
  refine r_iconst (v := 0) C dX6_readTrace_5 ?_
  refine r_putI (k := 1) C hw (is0_s i1) (is0_l i1) cO0 rfl (by decide) tw1_90 rfl rfl rfl dX6_readTrace_6 hf (fun S6 H locs hf hw => ?_)
  refine lv_aload_n C.1.1 C.1.2.1 dX6_readTrace_9 rfl (lv_at hl 1 rfl) ?_
  refine r_iconst (v := 0) C dX6_readTrace_10 ?_
  refine r_putI (k := 2) C hw (is0_s i1) (is0_l i1) cO0 rfl (by decide) tw1_94 rfl rfl rfl dX6_readTrace_11 hf (fun S11 H locs hf hw => ?_)
  refine lv_aload_n C.1.1 C.1.2.1 dX6_readTrace_14 rfl (lv_at hl 2 rfl) ?_
  refine r_iconst (v := 0) C dX6_readTrace_15 ?_
  refine r_putI (k := 0) C hw (is3_s i2) (is3_l i2) cO3 rfl (by decide) tw1_167 rfl rfl rfl dX6_readTrace_16 hf (fun S16 H locs hf hw => ?_)
  refine lv_aload_n C.1.1 C.1.2.1 dX6_readTrace_19 rfl (lv_at hl 2 rfl) ?_
  refine r_iconst (v := 1) C dX6_readTrace_20 ?_
  refine r_putI (k := 1) C hw (is3_s i2) (is3_l i2) cO3 rfl (by decide) tw1_170 rfl rfl rfl dX6_readTrace_21 hf (fun S21 H locs hf hw => ?_)
  refine r_iconst (v := 1) C dX6_readTrace_24 ?_
  refine lv_istore_n (lv' := [(3, .int (iz 1)), (0, .ref (X.2.2 c0)), (1, .ref (X.2.2 c1)), (2, .ref (X.2.2 c2))]) C.1.1 C.1.2.1 dX6_readTrace_25 rfl hl (by decide) rfl (fun ls hl => ?_)
  refine r_iconst (v := 0) C dX6_readTrace_26 ?_
  refine lv_istore (lv' := [(4, .int (iz 0)), (3, .int (iz 1)), (0, .ref (X.2.2 c0)), (1, .ref (X.2.2 c1)), (2, .ref (X.2.2 c2))]) C.1.1 C.1.2.1 dX6_readTrace_27 hl (by decide) rfl (fun ls hl => ?_)
  exact (w_X6_readTrace_29 l hinj hZ C out c0 c1 c2 i0 i1 i2 (f_X6_readTrace_70 c0 c1 c2 N) (w_X6_readTrace_70 l hinj hZ C out c0 c1 c2 i0 i1 i2 N) N) 1 0 S21 H locs ls hf hw (lv_sub hl [2, 3, 4, 1, 0] rfl)
def f_X10_fault (N : Nat) (S : S2) (a1 : Int) : Option (Int × S2) := cI a1 0 (if a1 = 0 then bI (f_X6_readTrace N S 1 54 70) fun v16 S16 => rI v16 S16 else cI a1 1 (if a1 = 1 then bI (f_X6_readScript N S 1 75) fun v33 S33 => rI v33 S33 else rI (-2) S))
abbrev rmX10_fault : Room := { frames := 8, cells := 0, slots := 0, locals := 176 }
theorem hd_X10_fault : yX10_fault.cls ≠ "java/lang/invoke/MethodHandle" ∧ yX10_fault.cls ≠ "java/lang/invoke/VarHandle" ∧ (parseMethodDescriptor yX10_fault.desc).map (fun d => d.parameters.length) = some 1 := by decide +kernel
set_option maxRecDepth 100000 in
set_option maxHeartbeats 4000000 in
theorem c_X10_fault (l : Launch) (X : XT) (hinj : XInj X nC) (hZ : ZOK (Zc X)) (N : Nat) (S : S2) (a1 : Int) (out : Int × S2) (hf : f_X10_fault N S a1 = some out) : MI l X shC nC (Zc X) yX10_fault cX10_fault 2 (some .int) rmX10_fault [.ref (X.2.2 0), .int (iz a1)] S out := by
  refine met_I (own := RX10) (by decide) rfl hinj hZ (Nat.le_of_ble_eq_true rfl) (fun p e s m args below meth c C ls H locs hw hl => ?_)
  unfold f_X10_fault at hf
  have hl : lv_has ls 2 [(0, .ref (X.2.2 0)), (1, .int (iz a1))] := hl
  refine lv_iload_n C.1.1 C.1.2.1 dX10_fault_0 rfl (lv_at hl 1 rfl) ?_
  refine r_if_ne C (tgt := 20) dX10_fault_1 (by decide) hf (fun hf => ?_) (fun hf => ?_)
  · refine lv_iload_n C.1.1 C.1.2.1 dX10_fault_20 rfl (lv_at hl 1 rfl) ?_
    refine r_iconst (v := 1) C dX10_fault_21 ?_
    refine r_icmp_ne C (tgt := 39) dX10_fault_22 (by decide) hf (fun hf => ?_) (fun hf => ?_)
    · refine r_bipush (v := (-2)) C dX10_fault_39 (by decide) ?_
      exact r_retI C hw dX10_fault_41 hf
    · refine lv_aload_n C.1.1 C.1.2.1 dX10_fault_25 rfl (lv_at hl 0 rfl) ?_
      refine r_getR (k := 0) C hw shC_0 ltC_0 cO10 rfl (by decide) tw2_46 rfl dX10_fault_26 ?_
      refine lv_aload_n C.1.1 C.1.2.1 dX10_fault_29 rfl (lv_at hl 0 rfl) ?_
      refine r_getR (k := 16) C hw shC_0 ltC_0 cO10 rfl (by decide) tw2_62 rfl dX10_fault_30 ?_
      refine r_callI (As := [.ref (X.2.2 75)]) (rest := []) (rm := rmX6_readScript) C hw (is6_s is6_at1) (is6_l is6_at1) cO6 tw3_9 tw3_10 tw3_11 tw1_2 tw3_12 hd_X6_readScript rfl ⟨⟨rfl, rfl⟩, Nat.le_of_ble_eq_true rfl, Nat.le_of_ble_eq_true rfl⟩ hl.1 rfl (Nat.le_of_ble_eq_true rfl) dX10_fault_33 hf (fun o ho => c_X6_readScript l X hinj hZ N S 1 75 is6_at1 is7_at75 o ho) (fun v33 S33 H locs hf hw => ?_)
      refine lv_goto (tgt := 41) C.1.1 C.1.2.1 dX10_fault_36 (by decide) ?_
      exact r_retI C hw dX10_fault_41 hf
  · refine lv_aload_n C.1.1 C.1.2.1 dX10_fault_4 rfl (lv_at hl 0 rfl) ?_
    refine r_getR (k := 0) C hw shC_0 ltC_0 cO10 rfl (by decide) tw2_46 rfl dX10_fault_5 ?_
    refine lv_aload_n C.1.1 C.1.2.1 dX10_fault_8 rfl (lv_at hl 0 rfl) ?_
    refine r_getR (k := 13) C hw shC_0 ltC_0 cO10 rfl (by decide) tw2_59 rfl dX10_fault_9 ?_
    refine lv_aload_n C.1.1 C.1.2.1 dX10_fault_12 rfl (lv_at hl 0 rfl) ?_
    refine r_getR (k := 15) C hw shC_0 ltC_0 cO10 rfl (by decide) tw2_61 rfl dX10_fault_13 ?_
    refine r_callI (As := [.ref (X.2.2 54), .ref (X.2.2 70)]) (rest := []) (rm := rmX6_readTrace) C hw (is6_s is6_at1) (is6_l is6_at1) cO6 tw2_123 tw2_124 tw2_125 tw1_2 tw2_126 hd_X6_readTrace rfl ⟨⟨rfl, rfl⟩, Nat.le_of_ble_eq_true rfl, Nat.le_of_ble_eq_true rfl⟩ hl.1 rfl (Nat.le_of_ble_eq_true rfl) dX10_fault_16 hf (fun o ho => c_X6_readTrace l X hinj hZ N S 1 54 70 is6_at1 is0_at54 is3_at70 o ho) (fun v16 S16 H locs hf hw => ?_)
    exact r_retI C hw dX10_fault_19 hf
def f_X10_text_41 (N : Nat) (x1 : Int) (y0 : Int) (S : S2) : Option (Int × S2) := cI x1 1 (if x1 = 1 then cI y0 0 (if y0 = 0 then rI (-1) S else bI (f_X6_readScript N S 1 75) fun v59 S59 => cI v59 (-1) (if v59 = (-1) then bI (f_X10_takeScript N S59) fun v67 S67 => rI v67 S67 else rI (-1) S59)) else rI (-1) S)
def f_X10_text_28 (N : Nat) (x1 : Int) (S : S2) : Option (Int × S2) := gI S 0 8 fun v29 => cI v29 4 (if 4 ≤ v29 then (f_X10_text_41 N) x1 0 S else (f_X10_text_41 N) x1 1 S)
def f_X10_text (N : Nat) (S : S2) (a1 : Int) : Option (Int × S2) := cI a1 0 (if a1 = 0 then bI (f_X6_readTrace N S 1 54 70) fun v16 S16 => cI v16 (-1) (if v16 = (-1) then bI (f_X10_takeTrace N S16) fun v24 S24 => rI v24 S24 else (f_X10_text_28 N) a1 S16) else (f_X10_text_28 N) a1 S)
abbrev rmX10_text : Room := { frames := 8, cells := 0, slots := 0, locals := 176 }
theorem hd_X10_text : yX10_text.cls ≠ "java/lang/invoke/MethodHandle" ∧ yX10_text.cls ≠ "java/lang/invoke/VarHandle" ∧ (parseMethodDescriptor yX10_text.desc).map (fun d => d.parameters.length) = some 1 := by decide +kernel
set_option maxRecDepth 100000 in
set_option maxHeartbeats 4000000 in
theorem w_X10_text_41 {p : Program} (l : Launch) {e : Env} {s : State} {m : MethodId} {args : Array Value} {below : List Frame} {meth : Method} {c : Code} {X : XT} (hinj : XInj X nC) (hZ : ZOK (Zc X)) (C : CX p s m args meth c cX10_text 3 RX10 (some .int) X nC (Zc X)) (out : Int × S2) : ∀ (N : Nat), ∀ (x1 : Int) (y0 : Int) (S : S2) (H : Heap) (locs : List Loc) (ls : Array Slot), f_X10_text_41 N x1 y0 S = some out → WH X shC nC s S H locs → lv_has ls 3 [(0, .ref (X.2.2 0)), (1, .int (iz x1))] → W p l e rmX10_text s m args below meth c H locs 0 0 (QI X shC nC s args below out) (F0 m 41 ls [.int (iz y0)]) := by
  intro N x1 y0 S H locs ls hf hw hl
  unfold f_X10_text_41 at hf
  refine lv_istore_n (lv' := [(2, .int (iz y0)), (0, .ref (X.2.2 0)), (1, .int (iz x1))]) C.1.1 C.1.2.1 dX10_text_41 rfl hl (by decide) rfl (fun ls hl => ?_)
  refine lv_iload_n C.1.1 C.1.2.1 dX10_text_42 rfl (lv_at hl 2 rfl) ?_
  refine r_iconst (v := 1) C dX10_text_43 ?_
  refine r_icmp_ne C (tgt := 71) dX10_text_44 (by decide) hf (fun hf => ?_) (fun hf => ?_)
  · refine r_iconst (v := (-1)) C dX10_text_71 ?_
    exact r_retI C hw dX10_text_72 hf
  · refine lv_iload_n C.1.1 C.1.2.1 dX10_text_47 rfl (lv_at hl 0 rfl) ?_
    refine r_if_eq C (tgt := 71) dX10_text_48 (by decide) hf (fun hf => ?_) (fun hf => ?_)
    · refine r_iconst (v := (-1)) C dX10_text_71 ?_
      exact r_retI C hw dX10_text_72 hf
    · refine lv_aload_n C.1.1 C.1.2.1 dX10_text_51 rfl (lv_at hl 1 rfl) ?_
      refine r_getR (k := 0) C hw shC_0 ltC_0 cO10 rfl (by decide) tw2_46 rfl dX10_text_52 ?_
      refine lv_aload_n C.1.1 C.1.2.1 dX10_text_55 rfl (lv_at hl 1 rfl) ?_
      refine r_getR (k := 16) C hw shC_0 ltC_0 cO10 rfl (by decide) tw2_62 rfl dX10_text_56 ?_
      refine r_callI (As := [.ref (X.2.2 75)]) (rest := []) (rm := rmX6_readScript) C hw (is6_s is6_at1) (is6_l is6_at1) cO6 tw3_9 tw3_10 tw3_11 tw1_2 tw3_12 hd_X6_readScript rfl ⟨⟨rfl, rfl⟩, Nat.le_of_ble_eq_true rfl, Nat.le_of_ble_eq_true rfl⟩ hl.1 rfl (Nat.le_of_ble_eq_true rfl) dX10_text_59 hf (fun o ho => c_X6_readScript l X hinj hZ N S 1 75 is6_at1 is7_at75 o ho) (fun v59 S59 H locs hf hw => ?_)
      refine r_iconst (v := (-1)) C dX10_text_62 ?_
      refine r_icmp_ne C (tgt := 71) dX10_text_63 (by decide) hf (fun hf => ?_) (fun hf => ?_)
      · refine r_iconst (v := (-1)) C dX10_text_71 ?_
        exact r_retI C hw dX10_text_72 hf
      · refine lv_aload_n C.1.1 C.1.2.1 dX10_text_66 rfl (lv_at hl 1 rfl) ?_
        refine r_callI (As := []) (rest := []) (rm := rmX10_takeScript) C hw shC_0 ltC_0 cO10 tw3_120 tw3_122 tp_21 tw1_1 tw3_123 hd_X10_takeScript rfl ⟨⟨rfl, rfl⟩, Nat.le_of_ble_eq_true rfl, Nat.le_of_ble_eq_true rfl⟩ hl.1 rfl (Nat.le_of_ble_eq_true rfl) dX10_text_67 hf (fun o ho => c_X10_takeScript l X hinj hZ N S59 o ho) (fun v67 S67 H locs hf hw => ?_)
        exact r_retI C hw dX10_text_70 hf
set_option maxRecDepth 100000 in
set_option maxHeartbeats 4000000 in
theorem w_X10_text_28 {p : Program} (l : Launch) {e : Env} {s : State} {m : MethodId} {args : Array Value} {below : List Frame} {meth : Method} {c : Code} {X : XT} (hinj : XInj X nC) (hZ : ZOK (Zc X)) (C : CX p s m args meth c cX10_text 3 RX10 (some .int) X nC (Zc X)) (out : Int × S2) : ∀ (N : Nat), ∀ (x1 : Int) (S : S2) (H : Heap) (locs : List Loc) (ls : Array Slot), f_X10_text_28 N x1 S = some out → WH X shC nC s S H locs → lv_has ls 3 [(0, .ref (X.2.2 0)), (1, .int (iz x1))] → W p l e rmX10_text s m args below meth c H locs 0 0 (QI X shC nC s args below out) (F0 m 28 ls []) := by
  intro N x1 S H locs ls hf hw hl
  unfold f_X10_text_28 at hf
  refine lv_aload_n C.1.1 C.1.2.1 dX10_text_28 rfl (lv_at hl 0 rfl) ?_
  refine r_getI (k := 8) C hw shC_0 ltC_0 cO10 rfl (by decide) tw2_54 rfl dX10_text_29 hf (fun v29 hf => ?_)
  refine r_iconst (v := 4) C dX10_text_32 ?_
  refine r_icmp_ge C (tgt := 40) dX10_text_33 (by decide) hf (fun hf => ?_) (fun hf => ?_)
  · refine r_iconst (v := 0) C dX10_text_40 ?_
    exact (w_X10_text_41 l hinj hZ C out N) x1 0 S H locs ls hf hw (lv_sub hl [0, 1] rfl)
  · refine r_iconst (v := 1) C dX10_text_36 ?_
    refine lv_goto (tgt := 41) C.1.1 C.1.2.1 dX10_text_37 (by decide) ?_
    exact (w_X10_text_41 l hinj hZ C out N) x1 1 S H locs ls hf hw (lv_sub hl [0, 1] rfl)
set_option maxRecDepth 100000 in
set_option maxHeartbeats 4000000 in
theorem c_X10_text (l : Launch) (X : XT) (hinj : XInj X nC) (hZ : ZOK (Zc X)) (N : Nat) (S : S2) (a1 : Int) (out : Int × S2) (hf : f_X10_text N S a1 = some out) : MI l X shC nC (Zc X) yX10_text cX10_text 3 (some .int) rmX10_text [.ref (X.2.2 0), .int (iz a1)] S out := by
  refine met_I (own := RX10) (by decide) rfl hinj hZ (Nat.le_of_ble_eq_true rfl) (fun p e s m args below meth c C ls H locs hw hl => ?_)
  unfold f_X10_text at hf
  have hl : lv_has ls 3 [(0, .ref (X.2.2 0)), (1, .int (iz a1))] := hl
  refine lv_iload_n C.1.1 C.1.2.1 dX10_text_0 rfl (lv_at hl 1 rfl) ?_
  refine r_if_ne C (tgt := 28) dX10_text_1 (by decide) hf (fun hf => ?_) (fun hf => ?_)
  · exact (w_X10_text_28 l hinj hZ C out N) a1 S H locs ls hf hw (lv_sub hl [0, 1] rfl)
  · refine lv_aload_n C.1.1 C.1.2.1 dX10_text_4 rfl (lv_at hl 0 rfl) ?_
    refine r_getR (k := 0) C hw shC_0 ltC_0 cO10 rfl (by decide) tw2_46 rfl dX10_text_5 ?_
    refine lv_aload_n C.1.1 C.1.2.1 dX10_text_8 rfl (lv_at hl 0 rfl) ?_
    refine r_getR (k := 13) C hw shC_0 ltC_0 cO10 rfl (by decide) tw2_59 rfl dX10_text_9 ?_
    refine lv_aload_n C.1.1 C.1.2.1 dX10_text_12 rfl (lv_at hl 0 rfl) ?_
    refine r_getR (k := 15) C hw shC_0 ltC_0 cO10 rfl (by decide) tw2_61 rfl dX10_text_13 ?_
    refine r_callI (As := [.ref (X.2.2 54), .ref (X.2.2 70)]) (rest := []) (rm := rmX6_readTrace) C hw (is6_s is6_at1) (is6_l is6_at1) cO6 tw2_123 tw2_124 tw2_125 tw1_2 tw2_126 hd_X6_readTrace rfl ⟨⟨rfl, rfl⟩, Nat.le_of_ble_eq_true rfl, Nat.le_of_ble_eq_true rfl⟩ hl.1 rfl (Nat.le_of_ble_eq_true rfl) dX10_text_16 hf (fun o ho => c_X6_readTrace l X hinj hZ N S 1 54 70 is6_at1 is0_at54 is3_at70 o ho) (fun v16 S16 H locs hf hw => ?_)
    refine r_iconst (v := (-1)) C dX10_text_19 ?_
    refine r_icmp_ne C (tgt := 28) dX10_text_20 (by decide) hf (fun hf => ?_) (fun hf => ?_)
    · exact (w_X10_text_28 l hinj hZ C out N) a1 S16 H locs ls hf hw (lv_sub hl [0, 1] rfl)
    · refine lv_aload_n C.1.1 C.1.2.1 dX10_text_23 rfl (lv_at hl 0 rfl) ?_
      refine r_callI (As := []) (rest := []) (rm := rmX10_takeTrace) C hw shC_0 ltC_0 cO10 tw3_46 tw3_48 tp_13 tw1_1 tw3_49 hd_X10_takeTrace rfl ⟨⟨rfl, rfl⟩, Nat.le_of_ble_eq_true rfl, Nat.le_of_ble_eq_true rfl⟩ hl.1 rfl (Nat.le_of_ble_eq_true rfl) dX10_text_24 hf (fun o ho => c_X10_takeTrace l X hinj hZ N S16 o ho) (fun v24 S24 H locs hf hw => ?_)
      exact r_retI C hw dX10_text_27 hf
