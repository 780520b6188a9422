section STR
variable {p : Program} {l : Launch} {e : Env} {R : Room} {s : State} {m : MethodId} {args : Array Value} {below : List Frame} {meth : Method} {c : Code} {H : Heap} {locs : List Loc} {Q : State → Prop}
variable {cc : ByteArray} {pc nL : Nat} {own : String} {ret0 : Option FieldType} {ls : Array Slot} {rest : List Value} {X : XT} {sh : Nat → Sh} {n : Nat} {Z : ZT} {S : S2} {α : Type} {out : α}
theorem r_callG (C : CX p s m args meth c cc nL own ret0 X n Z) (hw : WH X sh n s S H locs) {b idx maxL k : Nat} {Cn : String} {y : MethodName} {bytes : ByteArray} {ret : Option FieldType} {rm : Room} {As st0 : List Value} (hrecv : ∃ cell : Cell, H[b]? = some cell ∧ cell.vm.isStatics = false ∧ s.vm.findClass Cn = some cell.cls)
    (w1 : Cond.methodLink own idx y ∈ UW) (w2 : Cond.instanceMethod y ∈ UW) (w3 : Cond.selects Cn y y ∈ UW) (w4 : Cond.initialized y.cls ∈ UW) (w5 : Cond.code y bytes maxL ret ∈ UW)
    (hd : y.cls ≠ "java/lang/invoke/MethodHandle" ∧ y.cls ≠ "java/lang/invoke/VarHandle" ∧ (parseMethodDescriptor y.desc).map (fun d => d.parameters.length) = some k) (hk : As.length = k) (hR : (rm.cells = 0 ∧ rm.slots = 0) ∧ rm.frames + 1 ≤ R.frames ∧ 8 + (maxL + 11) + rm.locals ≤ R.locals) (hsize : ls.size = nL) (hst : st0 = As.reverse ++ .ref b :: rest) (hW : (rest.map fun v => v.category).sum ≤ 8) (hdg : decode cc pc = .ok (.invokevirtual idx, 3))
    {x : Option (Int × S2)} {K : Int → S2 → Option α} (hf : bI x K = some out) (hM : ∀ o, x = some o → MI l X sh n Z y bytes maxL ret rm (.ref b :: As) S o)
    (kk : ∀ (r : Int) (S' : S2) (H1 : Heap) (locs1 : List Loc), K r S' = some out → WH X sh n s S' H1 locs1 → W p l e R s m args below meth c H1 locs1 0 0 Q (F0 m (pc + 3) ls (.int (iz r) :: rest))) : W p l e R s m args below meth c H locs 0 0 Q (F0 m pc ls st0) := by
  obtain ⟨r, S', hx', hf⟩ := bI_some hf
  subst hst
  have hts := C.1.2.2.2.2
  have hP : va_P X.1 vwCl (XW X sh n S) H := hw.1
  refine va_calli (va_runV (n := k) C.1 (hM _ hx' H.size) ⟨callB_of k hts (uw_ws w5) rfl hR.1.1 hR.1.2 (hts _ w4) (hts _ w1) hd hR.2, hts _ w2, hts _ w3⟩ ⟨pre_blind C.2.2.2.2.2.2, hrecv, pre_of C hw⟩ rfl hk hsize rfl (lv_room hW) hdg ⟨Nat.zero_le _, Nat.zero_le _⟩) hw.2 (fun q _ h => XA_sub hw.2.1 q h) (XA_sub hw.2.1) (fun r1 u t H1 locs1 ht hvm hr hB hz hk1 hS1 => ?_)
  have hr : r1 = iz r := hr
  subst hr
  exact kk r S' H1 locs1 hf ⟨by rw [← ht]; exact hB, hS1⟩
theorem r_scallV (C : CX p s m args meth c cc nL own ret0 X n Z) (hw : WH X sh n s S H locs) {idx maxL k : Nat} {y : MethodName} {bytes : ByteArray} {ret : Option FieldType} {rm : Room} {As st0 : List Value}
    (w1 : Cond.methodLink own idx y ∈ UW) (w2 : Cond.static y ∈ UW) (w4 : Cond.initialized y.cls ∈ UW) (w5 : Cond.code y bytes maxL ret ∈ UW)
    (hd : y.cls ≠ "java/lang/invoke/MethodHandle" ∧ y.cls ≠ "java/lang/invoke/VarHandle" ∧ (parseMethodDescriptor y.desc).map (fun d => d.parameters.length) = some k) (hk : As.length = k) (hR : (rm.cells = 0 ∧ rm.slots = 0) ∧ rm.frames + 1 ≤ R.frames ∧ 8 + (maxL + 11) + rm.locals ≤ R.locals) (hsize : ls.size = nL) (hst : st0 = As.reverse ++ rest) (hW : (rest.map fun v => v.category).sum ≤ 8) (hdg : decode cc pc = .ok (.invokestatic idx, 3))
    {x : Option S2} {K : S2 → Option α} (hf : bV x K = some out) (hM : ∀ o, x = some o → MV l X sh n Z y bytes maxL ret rm As S o)
    (kk : ∀ (S' : S2) (H1 : Heap) (locs1 : List Loc), K S' = some out → WH X sh n s S' H1 locs1 → W p l e R s m args below meth c H1 locs1 0 0 Q (F0 m (pc + 3) ls rest)) : W p l e R s m args below meth c H locs 0 0 Q (F0 m pc ls st0) := by
  obtain ⟨S', hx', hf⟩ := bV_some hf
  subst hst
  have hts := C.1.2.2.2.2
  refine va_callv (va_runS (n := k) C.1 (hM _ hx' H.size) ⟨callB_of k hts (uw_ws w5) rfl hR.1.1 hR.1.2 (hts _ w4) (hts _ w1) hd hR.2, hts _ w2⟩ ⟨pre_blind C.2.2.2.2.2.2, pre_of C hw⟩ rfl hk hsize rfl (lv_room hW) hdg ⟨Nat.zero_le _, Nat.zero_le _⟩) hw.2 (fun q _ h => XA_sub hw.2.1 q h) (XA_sub hw.2.1) (fun u t H1 locs1 ht hvm hr hB hz hk1 hS1 => ?_)
  exact kk S' H1 locs1 hf ⟨by rw [← ht]; exact hB, hS1⟩
theorem r_retB {o : Int × S2} (C : CX p s m args meth c cc nL own (some .byte) X n Z) (hw : WH X sh n s S H locs) {x : Int32} {v : Int} (hx : x = iz v) (hv : narrow .byte (.int x) = .int x) (hdg : decode cc pc = .ok (.ireturn, 1)) (hf : rI v S = some o) : W p l e R s m args below meth c H locs 0 0 (QI X sh n s args below o) (F0 m pc ls [.int x]) := by
  cases hf
  subst hx
  exact W.zret (v := iz v) C.1.1 C.1.2.1 C.2.2.1 hv (fun t ht hW => ⟨⟨iz v, (), rfl, rfl, by rw [Post, ht]; exact hw.1⟩, hw.2.F ht⟩) hw.2.2.2 hdg C.2.1
theorem r_retIx {o : Int × S2} (C : CX p s m args meth c cc nL own (some .int) X n Z) (hw : WH X sh n s S H locs) {x : Int32} {v : Int} (hx : x = iz v) (hdg : decode cc pc = .ok (.ireturn, 1)) (hf : rI v S = some o) : W p l e R s m args below meth c H locs 0 0 (QI X sh n s args below o) (F0 m pc ls [.int x]) := by
  subst hx; exact r_retI C hw hdg hf
theorem r_retZx {o : Int × S2} (C : CX p s m args meth c cc nL own (some .boolean) X n Z) (hw : WH X sh n s S H locs) {x : Int32} {v : Int} (hx : x = iz v) (hdg : decode cc pc = .ok (.ireturn, 1)) (hf : rZ v S = some o) : W p l e R s m args below meth c H locs 0 0 (QI X sh n s args below o) (F0 m pc ls [.int x]) := by
  subst hx; exact r_retZ C hw hdg hf
theorem r_retCx {o : Int × S2} (C : CX p s m args meth c cc nL own (some .char) X n Z) (hw : WH X sh n s S H locs) {x : Int32} {v : Int} (hx : x = iz v) (hdg : decode cc pc = .ok (.ireturn, 1)) (hf : rC v S = some o) : W p l e R s m args below meth c H locs 0 0 (QI X sh n s args below o) (F0 m pc ls [.int x]) := by
  subst hx; exact r_retC C hw hdg hf
end STR
theorem zcC {p : Program} {s : State} {m : MethodId} {args : Array Value} {meth : Method} {c : Code} {cc : ByteArray} {nL n : Nat} {own : String} {ret0 : Option FieldType} {X : XT} {Z : ZT} (C : CX p s m args meth c cc nL own ret0 X n Z) : Z (XA X n s.heap.size) s s.heap := C.2.2.2.2.2.1
/-- a String constant: how long it is, its sign at a place -/
def sLn (w : Nat) : Int := (strL.getD w 0 : Nat)
def sCh (w : Nat) (k : Nat) : Int := bz ((strB.getD w []).getD k 0 &&& 255)
theorem sCh_lt (w k : Nat) : 0 ≤ sCh w k ∧ sCh w k < 256 := by
  unfold sCh
  obtain ⟨j, hj, e⟩ := pk_andE ((strB.getD w []).getD k 0) (m := 255) 8 (by decide)
  rw [e]
  have h := nI_toInt (n := j) (by omega)
  show 0 ≤ (nI j).toInt ∧ (nI j).toInt < 256
  omega
def sAt {α : Type} (w : Nat) (x : Int) (K : Int → Option α) : Option α := if 0 ≤ x ∧ x < sLn w then K (sCh w x.toNat) else none
theorem strL_lt : ∀ w, strL.getD w 0 < 100 := by
  intro w
  rcases Nat.lt_or_ge w 13 with h | h
  · revert w; decide
  · rw [List.getD_eq_getElem?_getD, List.getElem?_eq_none (by simpa [strL] using h)]; decide
abbrev rmZ0 : Room := { frames := 0, cells := 0, slots := 0, locals := 0 }
abbrev rmS1 : Room := { frames := 1, cells := 0, slots := 0, locals := 20 }
abbrev rmS2 : Room := { frames := 1, cells := 0, slots := 0, locals := 22 }
abbrev rmS3 : Room := { frames := 2, cells := 0, slots := 0, locals := 43 }
abbrev rmS4 : Room := { frames := 3, cells := 0, slots := 0, locals := 64 }
theorem hd_len : yJ0_length_8abf5.cls ≠ "java/lang/invoke/MethodHandle" ∧ yJ0_length_8abf5.cls ≠ "java/lang/invoke/VarHandle" ∧ (parseMethodDescriptor yJ0_length_8abf5.desc).map (fun d => d.parameters.length) = some 0 := by decide +kernel
theorem hd_coder : yJ0_coder_7d493.cls ≠ "java/lang/invoke/MethodHandle" ∧ yJ0_coder_7d493.cls ≠ "java/lang/invoke/VarHandle" ∧ (parseMethodDescriptor yJ0_coder_7d493.desc).map (fun d => d.parameters.length) = some 0 := by decide +kernel
theorem hd_lat : yJ0_isLatin1_aae02.cls ≠ "java/lang/invoke/MethodHandle" ∧ yJ0_isLatin1_aae02.cls ≠ "java/lang/invoke/VarHandle" ∧ (parseMethodDescriptor yJ0_isLatin1_aae02.desc).map (fun d => d.parameters.length) = some 0 := by decide +kernel
theorem hd_chr : yJ0_charAt_5068e.cls ≠ "java/lang/invoke/MethodHandle" ∧ yJ0_charAt_5068e.cls ≠ "java/lang/invoke/VarHandle" ∧ (parseMethodDescriptor yJ0_charAt_5068e.desc).map (fun d => d.parameters.length) = some 1 := by decide +kernel
theorem hd_chk3 : yJ3_checkIndex_8e157.cls ≠ "java/lang/invoke/MethodHandle" ∧ yJ3_checkIndex_8e157.cls ≠ "java/lang/invoke/VarHandle" ∧ (parseMethodDescriptor yJ3_checkIndex_8e157.desc).map (fun d => d.parameters.length) = some 3 := by decide +kernel
theorem hd_chk : yJ0_checkIndex_df160.cls ≠ "java/lang/invoke/MethodHandle" ∧ yJ0_checkIndex_df160.cls ≠ "java/lang/invoke/VarHandle" ∧ (parseMethodDescriptor yJ0_checkIndex_df160.desc).map (fun d => d.parameters.length) = some 2 := by decide +kernel
theorem hd_lch : yJ1_charAt_3b067.cls ≠ "java/lang/invoke/MethodHandle" ∧ yJ1_charAt_3b067.cls ≠ "java/lang/invoke/VarHandle" ∧ (parseMethodDescriptor yJ1_charAt_3b067.desc).map (fun d => d.parameters.length) = some 2 := by decide +kernel
theorem c_coder (l : Launch) (X : XT) (hinj : XInj X nC) (hZ : ZOK (Zc X)) {i : Nat} (hi : i < 13) (S : S2) : MI l X shC nC (Zc X) yJ0_coder_7d493 cJ0_coder_7d493 1 (some .byte) rmZ0 [.ref (X.2.2 (1000 + i))] S (0, S) := by
  refine met_I (own := RJ0) (by decide) rfl hinj hZ (Nat.le_of_ble_eq_true rfl) (fun p e s m args below meth c C ls H locs hw hl => ?_)
  have hl : lv_has ls 1 [(0, .ref (X.2.2 (1000 + i)))] := hl
  have hz := zcC C
  refine r_gets C hw (v := .int 1) (fun A U H h => h.2.1) tw2_169 dJ0_coder_7d493_0 ?_
  refine lv_if_eq (tgt := 13) C.1.1 C.1.2.1 dJ0_coder_7d493_3 (by decide) (fun h => absurd h (by decide)) (fun _ => ?_)
  refine lv_aload_n C.1.1 C.1.2.1 dJ0_coder_7d493_6 rfl (lv_at hl 0 rfl) ?_
  refine vk_getf C.1.1 C.1.2.1 (hz.1.1 i hi).2.1 hw.2 C.1.2.2.2.1 (C.1.2.2.2.2 _ tw8_133) (fun _ h => h) dJ0_coder_7d493_7 ?_
  refine lv_goto (tgt := 14) C.1.1 C.1.2.1 dJ0_coder_7d493_10 (by decide) ?_
  exact r_retB (v := 0) C hw (by decide) rfl dJ0_coder_7d493_14 rfl
theorem c_isLat (l : Launch) (X : XT) (hinj : XInj X nC) (hZ : ZOK (Zc X)) {i : Nat} (hi : i < 13) (S : S2) : MI l X shC nC (Zc X) yJ0_isLatin1_aae02 cJ0_isLatin1_aae02 1 (some .boolean) rmZ0 [.ref (X.2.2 (1000 + i))] S (1, S) := by
  refine met_I (own := RJ0) (by decide) rfl hinj hZ (Nat.le_of_ble_eq_true rfl) (fun p e s m args below meth c C ls H locs hw hl => ?_)
  have hl : lv_has ls 1 [(0, .ref (X.2.2 (1000 + i)))] := hl
  have hz := zcC C
  refine r_gets C hw (v := .int 1) (fun A U H h => h.2.1) tw2_169 dJ0_isLatin1_aae02_0 ?_
  refine lv_if_eq (tgt := 17) C.1.1 C.1.2.1 dJ0_isLatin1_aae02_3 (by decide) (fun h => absurd h (by decide)) (fun _ => ?_)
  refine lv_aload_n C.1.1 C.1.2.1 dJ0_isLatin1_aae02_6 rfl (lv_at hl 0 rfl) ?_
  refine vk_getf C.1.1 C.1.2.1 (hz.1.1 i hi).2.1 hw.2 C.1.2.2.2.1 (C.1.2.2.2.2 _ tw8_133) (fun _ h => h) dJ0_isLatin1_aae02_7 ?_
  refine lv_if_ne (tgt := 17) C.1.1 C.1.2.1 dJ0_isLatin1_aae02_10 (by decide) (fun h => absurd rfl h) (fun _ => ?_)
  refine lv_iconst (v := 1) C.1.1 C.1.2.1 dJ0_isLatin1_aae02_13 (by decide) ?_
  refine lv_goto (tgt := 18) C.1.1 C.1.2.1 dJ0_isLatin1_aae02_14 (by decide) ?_
  exact r_retZx (v := 1) C hw (by decide) dJ0_isLatin1_aae02_18 rfl
theorem shr0 {x : Int32} : x >>> ((0 : Int32) &&& 31) = x := by
  have : ((0 : Int32) &&& 31) = 0 := by decide
  rw [this]
  apply Int32.toBitVec_inj.mp
  simp
theorem c_strLen (l : Launch) (X : XT) (hinj : XInj X nC) (hZ : ZOK (Zc X)) {i : Nat} (hi : i < 13) (S : S2) : MI l X shC nC (Zc X) yJ0_length_8abf5 cJ0_length_8abf5 1 (some .int) rmS1 [.ref (X.2.2 (1000 + i))] S (sLn i, S) := by
  refine met_I (own := RJ0) (by decide) rfl hinj hZ (Nat.le_of_ble_eq_true rfl) (fun p e s m args below meth c C ls H locs hw hl => ?_)
  have hl : lv_has ls 1 [(0, .ref (X.2.2 (1000 + i)))] := hl
  have hz := zcC C
  refine lv_aload_n C.1.1 C.1.2.1 dJ0_length_8abf5_0 rfl (lv_at hl 0 rfl) ?_
  refine vk_getf C.1.1 C.1.2.1 (hz.1.1 i hi).2.2.1 hw.2 C.1.2.2.2.1 (C.1.2.2.2.2 _ tw8_132) (fun _ h => h) dJ0_length_8abf5_1 ?_
  refine va_tlen C.1.1 C.1.2.1 (hz.1.1 i hi).2.2.2 hw.2 (v := iz (sLn i)) rfl dJ0_length_8abf5_4 ?_
  refine lv_aload_n C.1.1 C.1.2.1 dJ0_length_8abf5_5 rfl (lv_at hl 0 rfl) ?_
  refine r_callG (As := []) (rest := [.int (iz (sLn i))]) (rm := rmZ0) (Cn := "java/lang/String") (α := Int × S2) (out := (0, S)) C hw (vk_recv hz.1 hi hw.2) tw2_165 tw2_166 tw2_167 tw1_13 tw2_168 hd_coder rfl ⟨⟨rfl, rfl⟩, Nat.le_of_ble_eq_true rfl, Nat.le_of_ble_eq_true rfl⟩ hl.1 rfl (Nat.le_of_ble_eq_true rfl) dJ0_length_8abf5_6 (x := some (0, S)) (K := fun r S' => some (r, S')) rfl (fun o ho => by cases ho; exact c_coder l X hinj hZ hi S) (fun v S' H locs hf hw => ?_)
  cases hf
  refine lv_ishr C.1.1 C.1.2.1 dJ0_length_8abf5_9 ?_
  rw [show iz 0 = (0 : Int32) from by decide, shr0]
  exact r_retI C hw dJ0_length_8abf5_10 rfl
theorem c_chk3 (l : Launch) (X : XT) (hinj : XInj X nC) (hZ : ZOK (Zc X)) (S : S2) {k q : Int} {v : Value} (hv : v = .null ∨ ∃ t, v = .ref t) (h0 : 0 ≤ k) (hk : k < q) (hq : q ≤ 2147483647) : MI l X shC nC (Zc X) yJ3_checkIndex_8e157 cJ3_checkIndex_8e157 3 (some .int) rmZ0 [.int (iz k), .int (iz q), v] S (k, S) := by
  refine met_I (own := RJ3) (by decide) rfl hinj hZ (by rcases hv with rfl | ⟨t, rfl⟩ <;> exact Nat.le_of_ble_eq_true rfl) (fun p e s m args below meth c C ls H locs hw hl => ?_)
  have hl : lv_has ls 3 [(0, .int (iz k)), (1, .int (iz q)), (2, v)] := hl
  refine lv_iload_n C.1.1 C.1.2.1 dJ3_checkIndex_8e157_0 rfl (lv_at hl 0 rfl) ?_
  refine lv_if_lt (tgt := 9) C.1.1 C.1.2.1 dJ3_checkIndex_8e157_1 (by decide) (fun h => absurd ((iz_lt (y := 0) ⟨by omega, by omega⟩ ⟨by decide, by decide⟩).mp h) (by omega)) (fun _ => ?_)
  refine lv_iload_n C.1.1 C.1.2.1 dJ3_checkIndex_8e157_4 rfl (lv_at hl 0 rfl) ?_
  refine lv_iload_n C.1.1 C.1.2.1 dJ3_checkIndex_8e157_5 rfl (lv_at hl 1 rfl) ?_
  refine lv_icmp_lt (tgt := 16) C.1.1 C.1.2.1 dJ3_checkIndex_8e157_6 (by decide) (fun _ => ?_) (fun h => absurd ((iz_lt ⟨by omega, by omega⟩ ⟨by omega, by omega⟩).mpr hk) h)
  refine lv_iload_n C.1.1 C.1.2.1 dJ3_checkIndex_8e157_16 rfl (lv_at hl 0 rfl) ?_
  exact r_retI C hw dJ3_checkIndex_8e157_17 rfl
theorem c_chk (l : Launch) (X : XT) (hinj : XInj X nC) (hZ : ZOK (Zc X)) (S : S2) {k q : Int} (h0 : 0 ≤ k) (hk : k < q) (hq : q ≤ 2147483647) : MV l X shC nC (Zc X) yJ0_checkIndex_df160 cJ0_checkIndex_df160 2 none rmS2 [.int (iz k), .int (iz q)] S S := by
  refine met_V (own := RJ0) (by decide) rfl hinj hZ (Nat.le_of_ble_eq_true rfl) (fun p e s m args below meth c C ls H locs hw hl => ?_)
  have hl : lv_has ls 2 [(0, .int (iz k)), (1, .int (iz q))] := hl
  have hz := zcC C
  refine lv_iload_n C.1.1 C.1.2.1 dJ0_checkIndex_df160_0 rfl (lv_at hl 0 rfl) ?_
  refine lv_iload_n C.1.1 C.1.2.1 dJ0_checkIndex_df160_1 rfl (lv_at hl 1 rfl) ?_
  have go : ∀ v : Value, (v = .null ∨ ∃ t, v = .ref t) → va_Z "jdk/internal/util/Preconditions" "SIOOBE_FORMATTER" "Ljava/util/function/BiFunction;" v (XA X nC s.heap.size) s s.heap → W p l e rmS2 s m args below meth c H locs 0 0 (QV X shC nC s args below S) (F0 m 2 ls [.int (iz q), .int (iz k)]) := by
    intro v hv hg
    refine va_gets C.1.1 C.1.2.1 hg hw.2 C.1.2.2.2.1 (C.1.2.2.2.2 _ tw2_185) (fun _ h => h) dJ0_checkIndex_df160_2 ?_
    refine r_scallI (As := [.int (iz k), .int (iz q), v]) (rest := []) (rm := rmZ0) (α := Int × S2) (out := (k, S)) C hw tw2_187 tw2_188 tw1_15 tw2_189 hd_chk3 rfl ⟨⟨rfl, rfl⟩, Nat.le_of_ble_eq_true rfl, Nat.le_of_ble_eq_true rfl⟩ hl.1 rfl (Nat.le_of_ble_eq_true rfl) dJ0_checkIndex_df160_5 (x := some (k, S)) (K := fun r S' => some (r, S')) rfl (fun o ho => by cases ho; exact c_chk3 l X hinj hZ S hv h0 hk hq) (fun v S' H locs hf hw => ?_)
    cases hf
    refine lv_pop C.1.1 C.1.2.1 dJ0_checkIndex_df160_8 rfl ?_
    exact r_retV C hw dJ0_checkIndex_df160_9 rfl
  rcases hz.2.2.1 with h | ⟨t, h⟩
  · exact go _ (Or.inl rfl) h
  · exact go _ (Or.inr ⟨t, rfl⟩) h
theorem c_lch (l : Launch) (X : XT) (hinj : XInj X nC) (hZ : ZOK (Zc X)) {i : Nat} (hi : i < 13) (S : S2) {k : Int} (h0 : 0 ≤ k) (hk : k < sLn i) : MI l X shC nC (Zc X) yJ1_charAt_3b067 cJ1_charAt_3b067 2 (some .char) rmS3 [.ref (X.2.2 (2000 + i)), .int (iz k)] S (sCh i k.toNat, S) := by
  have hq : sLn i ≤ 2147483647 := by have := strL_lt i; unfold sLn; omega
  refine met_I (own := RJ1) (by decide) rfl hinj hZ (Nat.le_of_ble_eq_true rfl) (fun p e s m args below meth c C ls H locs hw hl => ?_)
  have hl : lv_has ls 2 [(0, .ref (X.2.2 (2000 + i))), (1, .int (iz k))] := hl
  have hz := zcC C
  refine lv_iload_n C.1.1 C.1.2.1 dJ1_charAt_3b067_0 rfl (lv_at hl 1 rfl) ?_
  refine lv_aload_n C.1.1 C.1.2.1 dJ1_charAt_3b067_1 rfl (lv_at hl 0 rfl) ?_
  refine va_tlen C.1.1 C.1.2.1 (hz.1.1 i hi).2.2.2 hw.2 (v := iz (sLn i)) rfl dJ1_charAt_3b067_2 ?_
  refine r_scallV (As := [.int (iz k), .int (iz (sLn i))]) (rest := []) (rm := rmS2) (α := S2) (out := S) C hw tw2_182 tw2_183 tw1_13 tw2_184 hd_chk rfl ⟨⟨rfl, rfl⟩, Nat.le_of_ble_eq_true rfl, Nat.le_of_ble_eq_true rfl⟩ hl.1 rfl (Nat.le_of_ble_eq_true rfl) dJ1_charAt_3b067_3 (x := some S) (K := fun S' => some S') rfl (fun o ho => by cases ho; exact c_chk l X hinj hZ S h0 hk (by have := strL_lt i; unfold sLn; omega)) (fun S' H locs hf hw => ?_)
  cases hf
  refine lv_aload_n C.1.1 C.1.2.1 dJ1_charAt_3b067_6 rfl (lv_at hl 0 rfl) ?_
  refine lv_iload_n C.1.1 C.1.2.1 dJ1_charAt_3b067_7 rfl (lv_at hl 1 rfl) ?_
  refine va_tb C.1.1 C.1.2.1 (hz.1.1 i hi).2.2.2 hw.2 (iz_vp h0 hk (by have := strL_lt i; omega)) (v := .int ((strB.getD i []).getD k.toNat 0)) (by rw [iz_nat h0 (by omega)]) dJ1_charAt_3b067_8 ?_
  refine lv_sipush (v := 255) C.1.1 C.1.2.1 dJ1_charAt_3b067_9 (by decide) ?_
  refine lv_iand C.1.1 C.1.2.1 dJ1_charAt_3b067_12 ?_
  refine lv_i2c (v := iz (sCh i k.toNat)) C.1.1 C.1.2.1 dJ1_charAt_3b067_13 (by rw [sCh, iz_bz]; exact sc_c2 _) ?_
  exact r_retC C hw dJ1_charAt_3b067_14 (by have := sCh_lt i k.toNat; rw [rC, if_pos ⟨this.1, by omega⟩])
theorem c_charAt (l : Launch) (X : XT) (hinj : XInj X nC) (hZ : ZOK (Zc X)) {i : Nat} (hi : i < 13) (S : S2) {k : Int} (h0 : 0 ≤ k) (hk : k < sLn i) : MI l X shC nC (Zc X) yJ0_charAt_5068e cJ0_charAt_5068e 2 (some .char) rmS4 [.ref (X.2.2 (1000 + i)), .int (iz k)] S (sCh i k.toNat, S) := by
  refine met_I (own := RJ0) (by decide) rfl hinj hZ (Nat.le_of_ble_eq_true rfl) (fun p e s m args below meth c C ls H locs hw hl => ?_)
  have hl : lv_has ls 2 [(0, .ref (X.2.2 (1000 + i))), (1, .int (iz k))] := hl
  have hz := zcC C
  refine lv_aload_n C.1.1 C.1.2.1 dJ0_charAt_5068e_0 rfl (lv_at hl 0 rfl) ?_
  refine r_callG (As := []) (rest := []) (rm := rmZ0) (Cn := "java/lang/String") (α := Int × S2) (out := (1, S)) C hw (vk_recv hz.1 hi hw.2) tw2_175 tw2_176 tw2_177 tw1_13 tw2_178 hd_lat rfl ⟨⟨rfl, rfl⟩, Nat.le_of_ble_eq_true rfl, Nat.le_of_ble_eq_true rfl⟩ hl.1 rfl (Nat.le_of_ble_eq_true rfl) dJ0_charAt_5068e_1 (x := some (1, S)) (K := fun r S' => some (r, S')) rfl (fun o ho => by cases ho; exact c_isLat l X hinj hZ hi S) (fun v S' H locs hf hw => ?_)
  cases hf
  refine lv_if_eq (tgt := 16) C.1.1 C.1.2.1 dJ0_charAt_5068e_4 (by decide) (fun h => absurd h (by decide)) (fun _ => ?_)
  refine lv_aload_n C.1.1 C.1.2.1 dJ0_charAt_5068e_7 rfl (lv_at hl 0 rfl) ?_
  refine vk_getf C.1.1 C.1.2.1 (hz.1.1 i hi).2.2.1 hw.2 C.1.2.2.2.1 (C.1.2.2.2.2 _ tw8_132) (fun _ h => h) dJ0_charAt_5068e_8 ?_
  refine lv_iload_n C.1.1 C.1.2.1 dJ0_charAt_5068e_11 rfl (lv_at hl 1 rfl) ?_
  refine r_scallI (As := [.ref (X.2.2 (2000 + i)), .int (iz k)]) (rest := []) (rm := rmS3) (α := Int × S2) (out := (sCh i k.toNat, S)) C hw tw2_179 tw2_180 tw1_14 tw2_181 hd_lch rfl ⟨⟨rfl, rfl⟩, Nat.le_of_ble_eq_true rfl, Nat.le_of_ble_eq_true rfl⟩ hl.1 rfl (Nat.le_of_ble_eq_true rfl) dJ0_charAt_5068e_12 (x := some (sCh i k.toNat, S)) (K := fun r S' => some (r, S')) rfl (fun o ho => by cases ho; exact c_lch l X hinj hZ hi S h0 hk) (fun v S2 H locs hf hw => ?_)
  cases hf
  exact r_retC C hw dJ0_charAt_5068e_15 (by have := sCh_lt i k.toNat; rw [rC, if_pos ⟨this.1, by omega⟩])
