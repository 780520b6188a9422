section CALLS
def rI (v : Int) (S : S2) : Option (Int × S2) := some (v, S)
def rZ (v : Int) (S : S2) : Option (Int × S2) := if v = 0 ∨ v = 1 then some (v, S) else none
def rC (v : Int) (S : S2) : Option (Int × S2) := if 0 ≤ v ∧ v < 65536 then some (v, S) else none
def rL (v : Int64) (S : S2) : Option (Int64 × S2) := some (v, S)
def rV (S : S2) : Option S2 := some S
abbrev QI (X : XT) (sh : Nat → Sh) (n : Nat) (s : State) (args : Array Value) (below : List Frame) (o : Int × S2) : State → Prop := MQ below (va_Qi (fun r (_ : Unit) => r = iz o.1) (Post X sh n o.2) (XA X n s.heap.size)) args s 0 0 (XA X n s.heap.size)
abbrev QL (X : XT) (sh : Nat → Sh) (n : Nat) (s : State) (args : Array Value) (below : List Frame) (o : Int64 × S2) : State → Prop := MQ below (va_Ql (fun r (_ : Unit) => r = o.1) (Post X sh n o.2) (XA X n s.heap.size)) args s 0 0 (XA X n s.heap.size)
abbrev QV (X : XT) (sh : Nat → Sh) (n : Nat) (s : State) (args : Array Value) (below : List Frame) (o : S2) : State → Prop := MQ below (va_Qv (fun (_ : Unit) => True) (Post X sh n o) (XA X n s.heap.size)) args s 0 0 (XA X n s.heap.size)
abbrev QR (X : XT) (sh : Nat → Sh) (n : Nat) (s : State) (args : Array Value) (below : List Frame) (ra : Nat) (o : S2) : State → Prop := MQ below (va_Qr (fun (_ : Unit) => True) (fun _ a t => a = ra ∧ va_P X.1 vwCl (XW X sh n o) t.heap) (XA X n s.heap.size)) args s 0 0 (XA X n s.heap.size)
variable {p : Program} {l : Launch} {e : Env} {R : Room} {s : State} {m : MethodId} {args : Array Value} {below : List Frame} {meth : Method} {c : Code} {H : Heap} {locs : List Loc} {Q : State → Prop}
variable {cc : ByteArray} {pc nL : Nat} {own : String} {ret0 : Option FieldType} {ls : Array Slot} {rest : List Value} {X : XT} {sh : Nat → Sh} {n : Nat} {Z : ZT} {S : S2} {α : Type} {out : α}
theorem uw_ws {y : MethodName} {b : ByteArray} {k : Nat} {r : Option FieldType} (h : Cond.code y b k r ∈ UW) : GoodIn UW (.code y b k r :: UW) := by
  intro w hw
  rcases List.mem_cons.mp hw with rfl | hw
  · exact uw_good _ h
  · exact uw_good _ hw
theorem XA_sub {sz sz' : Nat} (h : sz ≤ sz') : ∀ q, XA X n sz' q → XA X n sz q := fun q hq => hq.elim Or.inl (fun g => Or.inr (Nat.le_trans h g))
theorem pre_blind {av : List Value} {sz : Nat} (hZ : ZOK Z) : FrameBlind (va_Pc av (Pre X sh n Z S sz)) := by
  intro a U g mk q
  obtain ⟨q0, q1, q2, q3, q4⟩ := q
  exact ⟨q0, q1, q2, va_K.moved (u := U) (U := U.calling g mk a) (Vm.Alike.refl U.vm) q3, hZ.2.2.2 _ _ _ g mk a q4⟩
theorem pre_of (C : CX p s m args meth c cc nL own ret0 X n Z) (hw : WH X sh n s S H locs) {av : List Value} : ∀ U : State, U.heap = H → s.WarmedH U.vm → va_Pc av (Pre X sh n Z S H.size) av.toArray U := by
  intro U hU hW
  obtain ⟨-, -, -, hinj, hK, hZ, hZO⟩ := C
  refine ⟨rfl, by rw [hU], by rw [hU]; exact hw.1, va_K.moved hW.alike hK, ?_⟩
  rw [hU]
  refine hZO.2.2.1 _ _ _ _ (XA_sub hw.2.1) ?_
  refine hZO.1 _ _ _ _ hW ?_
  exact hZO.2.1 _ _ _ _ (fun a h1 h2 => hw.2.2.1 a h1 h2) hZ
theorem r_callI (C : CX p s m args meth c cc nL own ret0 X n Z) (hw : WH X sh n s S H locs) {i ci idx maxL k : Nat} {fl : List (Nat × Nat)} {Cn : String} {T : u_T} {N : Nat} {ty0 : Nat → FieldType} {y : MethodName} {bytes : ByteArray} {ret : Option FieldType} {rm : Room} {As st0 : List Value} (hsh : sh i = .inl (ci, fl)) (hi : i < n) (O : ClsOK ci Cn T N ty0)
    (w1 : Cond.methodLink own idx y ∈ UW) (w2 : Cond.instanceMethod y ∈ UW) (w3 : Cond.selects Cn y y ∈ UW) (w4 : Cond.initialized y.cls ∈ UW) (w5 : Cond.code y bytes maxL ret ∈ UW)
    (hd : y.cls ≠ "java/lang/invoke/MethodHandle" ∧ y.cls ≠ "java/lang/invoke/VarHandle" ∧ (parseMethodDescriptor y.desc).map (fun d => d.parameters.length) = some k) (hk : As.length = k) (hR : (rm.cells = 0 ∧ rm.slots = 0) ∧ rm.frames + 1 ≤ R.frames ∧ 8 + (maxL + 11) + rm.locals ≤ R.locals) (hsize : ls.size = nL) (hst : st0 = As.reverse ++ .ref (X.2.2 i) :: rest) (hW : (rest.map fun v => v.category).sum ≤ 8) (hdg : decode cc pc = .ok (.invokevirtual idx, 3))
    {x : Option (Int × S2)} {K : Int → S2 → Option α} (hf : bI x K = some out) (hM : ∀ o, x = some o → MI l X sh n Z y bytes maxL ret rm (.ref (X.2.2 i) :: As) S o)
    (kk : ∀ (r : Int) (S' : S2) (H1 : Heap) (locs1 : List Loc), K r S' = some out → WH X sh n s S' H1 locs1 → W p l e R s m args below meth c H1 locs1 0 0 Q (F0 m (pc + 3) ls (.int (iz r) :: rest))) : W p l e R s m args below meth c H locs 0 0 Q (F0 m pc ls st0) := by
  obtain ⟨r, S', hx', hf⟩ := bI_some hf
  subst hst
  have hts := C.1.2.2.2.2
  have hP : va_P X.1 vwCl (XW X sh n S) H := hw.1
  refine va_calli (va_runV (n := k) C.1 (hM _ hx' H.size) ⟨callB_of k hts (uw_ws w5) rfl hR.1.1 hR.1.2 (hts _ w4) (hts _ w1) hd hR.2, hts _ w2, hts _ w3⟩ ⟨pre_blind C.2.2.2.2.2.2, va_recv C.2.2.2.2.1 hP (ci := ci) (q0 := i) (fs := fvs X.2.2 S i 0 fl) O.1 (by rw [XW, wld_get hi, hsh]; rfl), pre_of C hw⟩ rfl hk hsize rfl (lv_room hW) hdg ⟨Nat.zero_le _, Nat.zero_le _⟩) hw.2 (fun q _ h => XA_sub hw.2.1 q h) (XA_sub hw.2.1) (fun r1 u t H1 locs1 ht hvm hr hB hz hk1 hS1 => ?_)
  have hr : r1 = iz r := hr
  subst hr
  exact kk r S' H1 locs1 hf ⟨by rw [← ht]; exact hB, hS1⟩
theorem r_callV (C : CX p s m args meth c cc nL own ret0 X n Z) (hw : WH X sh n s S H locs) {i ci idx maxL k : Nat} {fl : List (Nat × Nat)} {Cn : String} {T : u_T} {N : Nat} {ty0 : Nat → FieldType} {y : MethodName} {bytes : ByteArray} {ret : Option FieldType} {rm : Room} {As st0 : List Value} (hsh : sh i = .inl (ci, fl)) (hi : i < n) (O : ClsOK ci Cn T N ty0)
    (w1 : Cond.methodLink own idx y ∈ UW) (w2 : Cond.instanceMethod y ∈ UW) (w3 : Cond.selects Cn y y ∈ UW) (w4 : Cond.initialized y.cls ∈ UW) (w5 : Cond.code y bytes maxL ret ∈ UW)
    (hd : y.cls ≠ "java/lang/invoke/MethodHandle" ∧ y.cls ≠ "java/lang/invoke/VarHandle" ∧ (parseMethodDescriptor y.desc).map (fun d => d.parameters.length) = some k) (hk : As.length = k) (hR : (rm.cells = 0 ∧ rm.slots = 0) ∧ rm.frames + 1 ≤ R.frames ∧ 8 + (maxL + 11) + rm.locals ≤ R.locals) (hsize : ls.size = nL) (hst : st0 = As.reverse ++ .ref (X.2.2 i) :: rest) (hW : (rest.map fun v => v.category).sum ≤ 8) (hdg : decode cc pc = .ok (.invokevirtual idx, 3))
    {x : Option S2} {K : S2 → Option α} (hf : bV x K = some out) (hM : ∀ o, x = some o → MV l X sh n Z y bytes maxL ret rm (.ref (X.2.2 i) :: As) S o)
    (kk : ∀ (S' : S2) (H1 : Heap) (locs1 : List Loc), K S' = some out → WH X sh n s S' H1 locs1 → W p l e R s m args below meth c H1 locs1 0 0 Q (F0 m (pc + 3) ls rest)) : W p l e R s m args below meth c H locs 0 0 Q (F0 m pc ls st0) := by
  obtain ⟨S', hx', hf⟩ := bV_some hf
  subst hst
  have hts := C.1.2.2.2.2
  have hP : va_P X.1 vwCl (XW X sh n S) H := hw.1
  refine va_callv (va_runV (n := k) C.1 (hM _ hx' H.size) ⟨callB_of k hts (uw_ws w5) rfl hR.1.1 hR.1.2 (hts _ w4) (hts _ w1) hd hR.2, hts _ w2, hts _ w3⟩ ⟨pre_blind C.2.2.2.2.2.2, va_recv C.2.2.2.2.1 hP (ci := ci) (q0 := i) (fs := fvs X.2.2 S i 0 fl) O.1 (by rw [XW, wld_get hi, hsh]; rfl), pre_of C hw⟩ rfl hk hsize rfl (lv_room hW) hdg ⟨Nat.zero_le _, Nat.zero_le _⟩) hw.2 (fun q _ h => XA_sub hw.2.1 q h) (XA_sub hw.2.1) (fun u t H1 locs1 ht hvm hr hB hz hk1 hS1 => ?_)
  exact kk S' H1 locs1 hf ⟨by rw [← ht]; exact hB, hS1⟩
theorem r_callR (C : CX p s m args meth c cc nL own ret0 X n Z) (hw : WH X sh n s S H locs) {i ci idx maxL k : Nat} {fl : List (Nat × Nat)} {Cn : String} {T : u_T} {N : Nat} {ty0 : Nat → FieldType} {y : MethodName} {bytes : ByteArray} {ret : Option FieldType} {rm : Room} {As st0 : List Value} (hsh : sh i = .inl (ci, fl)) (hi : i < n) (O : ClsOK ci Cn T N ty0)
    (w1 : Cond.methodLink own idx y ∈ UW) (w2 : Cond.instanceMethod y ∈ UW) (w3 : Cond.selects Cn y y ∈ UW) (w4 : Cond.initialized y.cls ∈ UW) (w5 : Cond.code y bytes maxL ret ∈ UW)
    (hd : y.cls ≠ "java/lang/invoke/MethodHandle" ∧ y.cls ≠ "java/lang/invoke/VarHandle" ∧ (parseMethodDescriptor y.desc).map (fun d => d.parameters.length) = some k) (hk : As.length = k) (hR : (rm.cells = 0 ∧ rm.slots = 0) ∧ rm.frames + 1 ≤ R.frames ∧ 8 + (maxL + 11) + rm.locals ≤ R.locals) (hsize : ls.size = nL) (hst : st0 = As.reverse ++ .ref (X.2.2 i) :: rest) (hW : (rest.map fun v => v.category).sum ≤ 8) (hdg : decode cc pc = .ok (.invokevirtual idx, 3))
    {x : Option S2} {K : S2 → Option α} {ra : Nat} (hf : bV x K = some out) (hM : ∀ o, x = some o → MR l X sh n Z y bytes maxL ret rm (.ref (X.2.2 i) :: As) S ra o)
    (kk : ∀ (S' : S2) (H1 : Heap) (locs1 : List Loc), K S' = some out → WH X sh n s S' H1 locs1 → W p l e R s m args below meth c H1 locs1 0 0 Q (F0 m (pc + 3) ls (.ref ra :: rest))) : W p l e R s m args below meth c H locs 0 0 Q (F0 m pc ls st0) := by
  obtain ⟨S', hx', hf⟩ := bV_some hf
  subst hst
  have hts := C.1.2.2.2.2
  have hP : va_P X.1 vwCl (XW X sh n S) H := hw.1
  refine va_callr (va_runV (n := k) C.1 (hM _ hx' H.size) ⟨callB_of k hts (uw_ws w5) rfl hR.1.1 hR.1.2 (hts _ w4) (hts _ w1) hd hR.2, hts _ w2, hts _ w3⟩ ⟨pre_blind C.2.2.2.2.2.2, va_recv C.2.2.2.2.1 hP (ci := ci) (q0 := i) (fs := fvs X.2.2 S i 0 fl) O.1 (by rw [XW, wld_get hi, hsh]; rfl), pre_of C hw⟩ rfl hk hsize rfl (lv_room hW) hdg ⟨Nat.zero_le _, Nat.zero_le _⟩) hw.2 (fun q _ h => XA_sub hw.2.1 q h) (XA_sub hw.2.1) (fun u rb t H1 locs1 ht hvm hr hB hz hk1 hS1 => ?_)
  obtain ⟨ha, hB⟩ := hB
  have ha : rb = ra := ha
  subst ha
  exact kk S' H1 locs1 hf ⟨by rw [← ht]; exact hB, hS1⟩
theorem r_scallI (C : CX p s m args meth c cc nL own ret0 X n Z) (hw : WH X sh n s S H locs) {idx maxL k : Nat} {y : MethodName} {bytes : ByteArray} {ret : Option FieldType} {rm : Room} {As st0 : List Value}
    (w1 : Cond.methodLink own idx y ∈ UW) (w2 : Cond.static y ∈ UW) (w4 : Cond.initialized y.cls ∈ UW) (w5 : Cond.code y bytes maxL ret ∈ UW)
    (hd : y.cls ≠ "java/lang/invoke/MethodHandle" ∧ y.cls ≠ "java/lang/invoke/VarHandle" ∧ (parseMethodDescriptor y.desc).map (fun d => d.parameters.length) = some k) (hk : As.length = k) (hR : (rm.cells = 0 ∧ rm.slots = 0) ∧ rm.frames + 1 ≤ R.frames ∧ 8 + (maxL + 11) + rm.locals ≤ R.locals) (hsize : ls.size = nL) (hst : st0 = As.reverse ++ rest) (hW : (rest.map fun v => v.category).sum ≤ 8) (hdg : decode cc pc = .ok (.invokestatic idx, 3))
    {x : Option (Int × S2)} {K : Int → S2 → Option α} (hf : bI x K = some out) (hM : ∀ o, x = some o → MI l X sh n Z y bytes maxL ret rm As S o)
    (kk : ∀ (r : Int) (S' : S2) (H1 : Heap) (locs1 : List Loc), K r S' = some out → WH X sh n s S' H1 locs1 → W p l e R s m args below meth c H1 locs1 0 0 Q (F0 m (pc + 3) ls (.int (iz r) :: rest))) : W p l e R s m args below meth c H locs 0 0 Q (F0 m pc ls st0) := by
  obtain ⟨r, S', hx', hf⟩ := bI_some hf
  subst hst
  have hts := C.1.2.2.2.2
  refine va_calli (va_runS (n := k) C.1 (hM _ hx' H.size) ⟨callB_of k hts (uw_ws w5) rfl hR.1.1 hR.1.2 (hts _ w4) (hts _ w1) hd hR.2, hts _ w2⟩ ⟨pre_blind C.2.2.2.2.2.2, pre_of C hw⟩ rfl hk hsize rfl (lv_room hW) hdg ⟨Nat.zero_le _, Nat.zero_le _⟩) hw.2 (fun q _ h => XA_sub hw.2.1 q h) (XA_sub hw.2.1) (fun r1 u t H1 locs1 ht hvm hr hB hz hk1 hS1 => ?_)
  have hr : r1 = iz r := hr
  subst hr
  exact kk r S' H1 locs1 hf ⟨by rw [← ht]; exact hB, hS1⟩
theorem r_scallL (C : CX p s m args meth c cc nL own ret0 X n Z) (hw : WH X sh n s S H locs) {idx maxL k : Nat} {y : MethodName} {bytes : ByteArray} {ret : Option FieldType} {rm : Room} {As st0 : List Value}
    (w1 : Cond.methodLink own idx y ∈ UW) (w2 : Cond.static y ∈ UW) (w4 : Cond.initialized y.cls ∈ UW) (w5 : Cond.code y bytes maxL ret ∈ UW)
    (hd : y.cls ≠ "java/lang/invoke/MethodHandle" ∧ y.cls ≠ "java/lang/invoke/VarHandle" ∧ (parseMethodDescriptor y.desc).map (fun d => d.parameters.length) = some k) (hk : As.length = k) (hR : (rm.cells = 0 ∧ rm.slots = 0) ∧ rm.frames + 1 ≤ R.frames ∧ 8 + (maxL + 11) + rm.locals ≤ R.locals) (hsize : ls.size = nL) (hst : st0 = As.reverse ++ rest) (hW : (rest.map fun v => v.category).sum ≤ 8) (hdg : decode cc pc = .ok (.invokestatic idx, 3))
    {x : Option (Int64 × S2)} {K : Int64 → S2 → Option α} (hf : bI x K = some out) (hM : ∀ o, x = some o → ML l X sh n Z y bytes maxL ret rm As S o)
    (kk : ∀ (r : Int64) (S' : S2) (H1 : Heap) (locs1 : List Loc), K r S' = some out → WH X sh n s S' H1 locs1 → W p l e R s m args below meth c H1 locs1 0 0 Q (F0 m (pc + 3) ls (.long r :: rest))) : W p l e R s m args below meth c H locs 0 0 Q (F0 m pc ls st0) := by
  obtain ⟨r, S', hx', hf⟩ := bI_some hf
  subst hst
  have hts := C.1.2.2.2.2
  refine va_calll (va_runS (n := k) C.1 (hM _ hx' H.size) ⟨callB_of k hts (uw_ws w5) rfl hR.1.1 hR.1.2 (hts _ w4) (hts _ w1) hd hR.2, hts _ w2⟩ ⟨pre_blind C.2.2.2.2.2.2, pre_of C hw⟩ rfl hk hsize rfl (lv_room hW) hdg ⟨Nat.zero_le _, Nat.zero_le _⟩) hw.2 (fun q _ h => XA_sub hw.2.1 q h) (XA_sub hw.2.1) (fun r1 u t H1 locs1 ht hvm hr hB hz hk1 hS1 => ?_)
  have hr : r1 = r := hr
  subst hr
  exact kk r1 S' H1 locs1 hf ⟨by rw [← ht]; exact hB, hS1⟩
theorem r_scallR (C : CX p s m args meth c cc nL own ret0 X n Z) (hw : WH X sh n s S H locs) {idx maxL k : Nat} {y : MethodName} {bytes : ByteArray} {ret : Option FieldType} {rm : Room} {As st0 : List Value}
    (w1 : Cond.methodLink own idx y ∈ UW) (w2 : Cond.static y ∈ UW) (w4 : Cond.initialized y.cls ∈ UW) (w5 : Cond.code y bytes maxL ret ∈ UW)
    (hd : y.cls ≠ "java/lang/invoke/MethodHandle" ∧ y.cls ≠ "java/lang/invoke/VarHandle" ∧ (parseMethodDescriptor y.desc).map (fun d => d.parameters.length) = some k) (hk : As.length = k) (hR : (rm.cells = 0 ∧ rm.slots = 0) ∧ rm.frames + 1 ≤ R.frames ∧ 8 + (maxL + 11) + rm.locals ≤ R.locals) (hsize : ls.size = nL) (hst : st0 = As.reverse ++ rest) (hW : (rest.map fun v => v.category).sum ≤ 8) (hdg : decode cc pc = .ok (.invokestatic idx, 3))
    {x : Option S2} {K : S2 → Option α} {ra : Nat} (hf : bV x K = some out) (hM : ∀ o, x = some o → MR l X sh n Z y bytes maxL ret rm As S ra o)
    (kk : ∀ (S' : S2) (H1 : Heap) (locs1 : List Loc), K S' = some out → WH X sh n s S' H1 locs1 → W p l e R s m args below meth c H1 locs1 0 0 Q (F0 m (pc + 3) ls (.ref ra :: rest))) : W p l e R s m args below meth c H locs 0 0 Q (F0 m pc ls st0) := by
  obtain ⟨S', hx', hf⟩ := bV_some hf
  subst hst
  have hts := C.1.2.2.2.2
  refine va_callr (va_runS (n := k) C.1 (hM _ hx' H.size) ⟨callB_of k hts (uw_ws w5) rfl hR.1.1 hR.1.2 (hts _ w4) (hts _ w1) hd hR.2, hts _ w2⟩ ⟨pre_blind C.2.2.2.2.2.2, pre_of C hw⟩ rfl hk hsize rfl (lv_room hW) hdg ⟨Nat.zero_le _, Nat.zero_le _⟩) hw.2 (fun q _ h => XA_sub hw.2.1 q h) (XA_sub hw.2.1) (fun u rb t H1 locs1 ht hvm hr hB hz hk1 hS1 => ?_)
  obtain ⟨ha, hB⟩ := hB
  have ha : rb = ra := ha
  subst ha
  exact kk S' H1 locs1 hf ⟨by rw [← ht]; exact hB, hS1⟩
/-! returns -/
theorem r_retI {o : Int × S2} (C : CX p s m args meth c cc nL own (some .int) X n Z) (hw : WH X sh n s S H locs) {v : Int} (hdg : decode cc pc = .ok (.ireturn, 1)) (hf : rI v S = some o) : W p l e R s m args below meth c H locs 0 0 (QI X sh n s args below o) (F0 m pc ls [.int (iz v)]) := by
  cases hf
  exact W.iret (v := iz v) C.1.1 C.1.2.1 C.2.2.1 (fun t ht hW => ⟨⟨iz v, (), rfl, rfl, by rw [Post, ht]; exact hw.1⟩, hw.2.F ht⟩) hw.2.2.2 hdg C.2.1
theorem r_retZ {o : Int × S2} (C : CX p s m args meth c cc nL own (some .boolean) X n Z) (hw : WH X sh n s S H locs) {v : Int} (hdg : decode cc pc = .ok (.ireturn, 1)) (hf : rZ v S = some o) : W p l e R s m args below meth c H locs 0 0 (QI X sh n s args below o) (F0 m pc ls [.int (iz v)]) := by
  obtain ⟨h01, hf⟩ := ite_none hf
  cases hf
  exact W.zret (v := iz v) C.1.1 C.1.2.1 C.2.2.1 (bool_nar h01) (fun t ht hW => ⟨⟨iz v, (), rfl, rfl, by rw [Post, ht]; exact hw.1⟩, hw.2.F ht⟩) hw.2.2.2 hdg C.2.1
theorem char_nar {v : Int32} (h : vp_nar .char v = v) : narrow .char (.int v) = .int v := by
  have : narrow .char (.int v) = .int (vp_nar .char v) := rfl
  rw [this, h]
theorem r_retC {o : Int × S2} (C : CX p s m args meth c cc nL own (some .char) X n Z) (hw : WH X sh n s S H locs) {v : Int} (hdg : decode cc pc = .ok (.ireturn, 1)) (hf : rC v S = some o) : W p l e R s m args below meth c H locs 0 0 (QI X sh n s args below o) (F0 m pc ls [.int (iz v)]) := by
  obtain ⟨h01, hf⟩ := ite_none hf
  cases hf
  exact W.zret (v := iz v) C.1.1 C.1.2.1 C.2.2.1 (char_nar (iz_char h01.1 h01.2)) (fun t ht hW => ⟨⟨iz v, (), rfl, rfl, by rw [Post, ht]; exact hw.1⟩, hw.2.F ht⟩) hw.2.2.2 hdg C.2.1
theorem r_retV {o : S2} (C : CX p s m args meth c cc nL own none X n Z) (hw : WH X sh n s S H locs) (hdg : decode cc pc = .ok (.return_, 1)) (hf : rV S = some o) : W p l e R s m args below meth c H locs 0 0 (QV X sh n s args below o) (F0 m pc ls []) := by
  cases hf
  exact W.vret C.1.1 C.1.2.1 C.2.2.1 (fun t ht hW => ⟨⟨(), rfl, trivial, by rw [Post, ht]; exact hw.1⟩, hw.2.F ht⟩) hw.2.2.2 hdg C.2.1
/-! a method's entry -/
theorem met_I {y : MethodName} {maxL : Nat} {ret : Option FieldType} {rm : Room} {av : List Value} {o : Int × S2} (hy : plainName y.cls = true) (ho : y.cls = own) (hinj : XInj X n) (hZ : ZOK Z) (hav : (lg_sl av).length ≤ maxL)
    (body : ∀ (p : Program) (e : Env) (s : State) (m : MethodId) (args : Array Value) (below : List Frame) (meth : Method) (c : Code), CX p s m args meth c cc maxL own ret X n Z → ∀ (ls : Array Slot) (H : Heap) (locs : List Loc), WH X sh n s S H locs → lv_has ls maxL (lv_args 0 av) → W p l e rm s m args below meth c H locs 0 0 (QI X sh n s args below o) (F0 m 0 ls [])) : MI l X sh n Z y cc maxL ret rm av S o := by
  intro sz
  refine Met.ofW (cc := cc) (maxL := maxL) (ret := ret) hy rfl ?_
  intro p e s m args below meth c s₁ B hml hv
  obtain ⟨rfl, hsz, hP, hK, hz⟩ := hv
  have hts := atoms_spec (ws := .code y cc maxL ret :: UW) B.pre
  have hown : s.vm.findClass own = some m.cls := by rw [← ho]; exact findClass_of_methodNamed B.named
  subst hsz
  have hl := lv_entry av (n := maxL) hav
  rw [lg_entry_eq]
  generalize (lg_sl av ++ List.replicate (maxL - (lg_sl av).length) Slot.unset).toArray = ls at hl ⊢
  exact body p e s m _ below meth c ⟨⟨B.exec, B.bytes, hml, hown, fun w h => hts w (List.mem_cons_of_mem _ h)⟩, B.notSynchronized, B.returns, hinj, hK, hz, hZ⟩ ls s.heap [] ⟨hP, va_S.rf⟩ hl
theorem met_V {y : MethodName} {maxL : Nat} {ret : Option FieldType} {rm : Room} {av : List Value} {o : S2} (hy : plainName y.cls = true) (ho : y.cls = own) (hinj : XInj X n) (hZ : ZOK Z) (hav : (lg_sl av).length ≤ maxL)
    (body : ∀ (p : Program) (e : Env) (s : State) (m : MethodId) (args : Array Value) (below : List Frame) (meth : Method) (c : Code), CX p s m args meth c cc maxL own ret X n Z → ∀ (ls : Array Slot) (H : Heap) (locs : List Loc), WH X sh n s S H locs → lv_has ls maxL (lv_args 0 av) → W p l e rm s m args below meth c H locs 0 0 (QV X sh n s args below o) (F0 m 0 ls [])) : MV l X sh n Z y cc maxL ret rm av S o := by
  intro sz
  refine Met.ofW (cc := cc) (maxL := maxL) (ret := ret) hy rfl ?_
  intro p e s m args below meth c s₁ B hml hv
  obtain ⟨rfl, hsz, hP, hK, hz⟩ := hv
  have hts := atoms_spec (ws := .code y cc maxL ret :: UW) B.pre
  have hown : s.vm.findClass own = some m.cls := by rw [← ho]; exact findClass_of_methodNamed B.named
  subst hsz
  have hl := lv_entry av (n := maxL) hav
  rw [lg_entry_eq]
  generalize (lg_sl av ++ List.replicate (maxL - (lg_sl av).length) Slot.unset).toArray = ls at hl ⊢
  exact body p e s m _ below meth c ⟨⟨B.exec, B.bytes, hml, hown, fun w h => hts w (List.mem_cons_of_mem _ h)⟩, B.notSynchronized, B.returns, hinj, hK, hz, hZ⟩ ls s.heap [] ⟨hP, va_S.rf⟩ hl
theorem met_L {y : MethodName} {maxL : Nat} {ret : Option FieldType} {rm : Room} {av : List Value} {o : Int64 × S2} (hy : plainName y.cls = true) (ho : y.cls = own) (hinj : XInj X n) (hZ : ZOK Z) (hav : (lg_sl av).length ≤ maxL)
    (body : ∀ (p : Program) (e : Env) (s : State) (m : MethodId) (args : Array Value) (below : List Frame) (meth : Method) (c : Code), CX p s m args meth c cc maxL own ret X n Z → ∀ (ls : Array Slot) (H : Heap) (locs : List Loc), WH X sh n s S H locs → lv_has ls maxL (lv_args 0 av) → W p l e rm s m args below meth c H locs 0 0 (QL X sh n s args below o) (F0 m 0 ls [])) : ML l X sh n Z y cc maxL ret rm av S o := by
  intro sz
  refine Met.ofW (cc := cc) (maxL := maxL) (ret := ret) hy rfl ?_
  intro p e s m args below meth c s₁ B hml hv
  obtain ⟨rfl, hsz, hP, hK, hz⟩ := hv
  have hts := atoms_spec (ws := .code y cc maxL ret :: UW) B.pre
  have hown : s.vm.findClass own = some m.cls := by rw [← ho]; exact findClass_of_methodNamed B.named
  subst hsz
  have hl := lv_entry av (n := maxL) hav
  rw [lg_entry_eq]
  generalize (lg_sl av ++ List.replicate (maxL - (lg_sl av).length) Slot.unset).toArray = ls at hl ⊢
  exact body p e s m _ below meth c ⟨⟨B.exec, B.bytes, hml, hown, fun w h => hts w (List.mem_cons_of_mem _ h)⟩, B.notSynchronized, B.returns, hinj, hK, hz, hZ⟩ ls s.heap [] ⟨hP, va_S.rf⟩ hl
theorem met_R {y : MethodName} {maxL : Nat} {ret : Option FieldType} {rm : Room} {av : List Value} {ra : Nat} {o : S2} (hy : plainName y.cls = true) (ho : y.cls = own) (hinj : XInj X n) (hZ : ZOK Z) (hav : (lg_sl av).length ≤ maxL)
    (body : ∀ (p : Program) (e : Env) (s : State) (m : MethodId) (args : Array Value) (below : List Frame) (meth : Method) (c : Code), CX p s m args meth c cc maxL own ret X n Z → ∀ (ls : Array Slot) (H : Heap) (locs : List Loc), WH X sh n s S H locs → lv_has ls maxL (lv_args 0 av) → W p l e rm s m args below meth c H locs 0 0 (QR X sh n s args below ra o) (F0 m 0 ls [])) : MR l X sh n Z y cc maxL ret rm av S ra o := by
  intro sz
  refine Met.ofW (cc := cc) (maxL := maxL) (ret := ret) hy rfl ?_
  intro p e s m args below meth c s₁ B hml hv
  obtain ⟨rfl, hsz, hP, hK, hz⟩ := hv
  have hts := atoms_spec (ws := .code y cc maxL ret :: UW) B.pre
  have hown : s.vm.findClass own = some m.cls := by rw [← ho]; exact findClass_of_methodNamed B.named
  subst hsz
  have hl := lv_entry av (n := maxL) hav
  rw [lg_entry_eq]
  generalize (lg_sl av ++ List.replicate (maxL - (lg_sl av).length) Slot.unset).toArray = ls at hl ⊢
  exact body p e s m _ below meth c ⟨⟨B.exec, B.bytes, hml, hown, fun w h => hts w (List.mem_cons_of_mem _ h)⟩, B.notSynchronized, B.returns, hinj, hK, hz, hZ⟩ ls s.heap [] ⟨hP, va_S.rf⟩ hl
end CALLS
