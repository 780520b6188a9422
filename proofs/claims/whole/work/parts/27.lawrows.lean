/-! THE LAW: both sides in one heap, and a row of one long -/
def LD (X XM : XT) (ao sz : Nat) : Prop := (∀ i, i < nC → sz ≤ X.2.2 i) ∧ (∀ i, i < nM → sz ≤ XM.2.2 i) ∧ sz ≤ ao ∧ (∀ i j, i < nC → j < nM → X.2.2 i ≠ XM.2.2 j) ∧ (∀ i, i < nC → X.2.2 i ≠ ao) ∧ (∀ i, i < nM → XM.2.2 i ≠ ao)
def LH (X XM : XT) (ao sz : Nat) (H0 : Heap) (Sc Sm : S2) (fo : Nat → Int64) (H : Heap) (locs : List Loc) : Prop := va_P X.1 vwCl (XW X shC nC Sc) H ∧ va_P XM.1 vwCl (XW XM shM nM Sm) H ∧ va_P X.1 vwCl (oW X ao fo) H ∧ va_S (fun q => sz ≤ q) H0 H locs
theorem P_keep {D : va_G} {cl : List vw_C} {cA : Nat → ClassId} {ad : Nat → Nat} {sh : Nat → Sh} {n : Nat} {S : S2} {H H1 : Heap} (h : va_P D cl (wld cA ad sh n S) H) (hk : ∀ i, i < n → ad i < H.size → H1[ad i]? = H[ad i]?) : va_P D cl (wld cA ad sh n S) H1 := by
  refine h.kept (fun k q hq => ?_)
  have h1 : k < n := by
    have := (List.getElem?_eq_some_iff.mp hq).1; rwa [wld_len] at this
  have h2 := (h k q hq).lt
  rw [wld_get h1] at hq
  cases hq
  exact hk k h1 h2
theorem P_keepo {X : XT} {ao : Nat} {fo : Nat → Int64} {H H1 : Heap} (h : va_P X.1 vwCl (oW X ao fo) H) (hk : ao < H.size → H1[ao]? = H[ao]?) : va_P X.1 vwCl (oW X ao fo) H1 := by
  refine h.kept (fun k q hq => ?_)
  have hz : k < 1 := (List.getElem?_eq_some_iff.mp hq).1
  have h2 := (h k q hq).lt
  rw [show k = 0 by omega] at hq
  cases hq
  exact hk h2
section LAWROWS
variable {p : Program} {l : Launch} {e : Env} {R : Room} {s : State} {m : MethodId} {args : Array Value} {below : List Frame} {meth : Method} {c : Code} {H : Heap} {locs : List Loc} {cells slots : Nat} {Q : State → Prop}
variable {cc : ByteArray} {pc nL : Nat} {own : String} {ret0 : Option FieldType} {ls : Array Slot} {rest : List Value} {X XM : XT} {sh : Nat → Sh} {n ao : Nat} {Z : ZT} {S Sc Sm : S2} {fo : Nat → Int64}
theorem l_callI (C : CX p s m args meth c cc nL own ret0 X n Z) (hw : WH X sh n s S H locs) {i ci idx maxL k : Nat} {fl : List (Nat × Nat)} {Cn : String} {T : u_T} {N : Nat} {ty0 : Nat → FieldType} {y : MethodName} {bytes : ByteArray} {ret : Option FieldType} {rm : Room} {As st0 : List Value} (hsh : sh i = .inl (ci, fl)) (hi : i < n) (O : ClsOK ci Cn T N ty0)
    (w1 : Cond.methodLink own idx y ∈ UW) (w2 : Cond.instanceMethod y ∈ UW) (w3 : Cond.selects Cn y y ∈ UW) (w4 : Cond.initialized y.cls ∈ UW) (w5 : Cond.code y bytes maxL ret ∈ UW)
    (hd : y.cls ≠ "java/lang/invoke/MethodHandle" ∧ y.cls ≠ "java/lang/invoke/VarHandle" ∧ (parseMethodDescriptor y.desc).map (fun d => d.parameters.length) = some k) (hk : As.length = k) (hR : (rm.cells = 0 ∧ rm.slots = 0) ∧ rm.frames + 1 ≤ R.frames ∧ 8 + (maxL + 11) + rm.locals ≤ R.locals) (hsize : ls.size = nL) (hst : st0 = As.reverse ++ .ref (X.2.2 i) :: rest) (hW : (rest.map fun v => v.category).sum ≤ 8) (hdg : decode cc pc = .ok (.invokevirtual idx, 3)) (hcells : cells ≤ R.cells) (hslots : slots ≤ R.slots)
    {o : Int × S2} (hM : MI l X sh n Z y bytes maxL ret rm (.ref (X.2.2 i) :: As) S o)
    (kk : ∀ (H1 : Heap) (locs1 : List Loc), WH X sh n s o.2 H1 locs1 → (∀ q : Nat, q < H.size → ¬ XA X n H.size q → H1[q]? = H[q]?) → W p l e R s m args below meth c H1 locs1 cells slots Q (F0 m (pc + 3) ls (.int (iz o.1) :: rest))) : W p l e R s m args below meth c H locs cells slots Q (F0 m pc ls st0) := by
  subst hst
  have hts := C.1.2.2.2.2
  have hP : va_P X.1 vwCl (XW X sh n S) H := hw.1
  refine va_calli (va_runV (n := k) C.1 (hM H.size) ⟨callB_of k hts (uw_ws w5) rfl hR.1.1 hR.1.2 (hts _ w4) (hts _ w1) hd hR.2, hts _ w2, hts _ w3⟩ ⟨pre_blind C.2.2.2.2.2.2, va_recv C.2.2.2.2.1 hP (ci := ci) (q0 := i) (fs := fvs X.2.2 S i 0 fl) O.1 (by rw [XW, wld_get hi, hsh]; rfl), pre_of C hw⟩ rfl hk hsize rfl (lv_room hW) hdg ⟨hcells, hslots⟩) hw.2 (fun q _ h => XA_sub hw.2.1 q h) (XA_sub hw.2.1) (fun r1 u t H1 locs1 ht hvm hr hB hz hk1 hS1 => ?_)
  have hr : r1 = iz o.1 := hr
  subst hr
  exact kk H1 locs1 ⟨by rw [← ht]; exact hB, hS1⟩ hk1
/-- a call of the class's object -/
theorem q_C (C : CX p s m args meth c cc nL own ret0 X nC Z) (D : LD X XM ao s.heap.size) (hw : LH X XM ao s.heap.size s.heap Sc Sm fo H locs) {idx maxL k : Nat} {y : MethodName} {bytes : ByteArray} {ret : Option FieldType} {rm : Room} {As st0 : List Value}
    (w1 : Cond.methodLink own idx y ∈ UW) (w2 : Cond.instanceMethod y ∈ UW) (w3 : Cond.selects RX10 y y ∈ UW) (w4 : Cond.initialized y.cls ∈ UW) (w5 : Cond.code y bytes maxL ret ∈ UW)
    (hd : y.cls ≠ "java/lang/invoke/MethodHandle" ∧ y.cls ≠ "java/lang/invoke/VarHandle" ∧ (parseMethodDescriptor y.desc).map (fun d => d.parameters.length) = some k) (hk : As.length = k) (hR : (rm.cells = 0 ∧ rm.slots = 0) ∧ rm.frames + 1 ≤ R.frames ∧ 8 + (maxL + 11) + rm.locals ≤ R.locals) (hsize : ls.size = nL) (hst : st0 = As.reverse ++ .ref (X.2.2 0) :: rest) (hW : (rest.map fun v => v.category).sum ≤ 8) (hdg : decode cc pc = .ok (.invokevirtual idx, 3)) (hcells : cells ≤ R.cells) (hslots : slots ≤ R.slots)
    {o : Int × S2} (hM : MI l X shC nC Z y bytes maxL ret rm (.ref (X.2.2 0) :: As) Sc o)
    (kk : ∀ (H1 : Heap) (locs1 : List Loc), LH X XM ao s.heap.size s.heap o.2 Sm fo H1 locs1 → W p l e R s m args below meth c H1 locs1 cells slots Q (F0 m (pc + 3) ls (.int (iz o.1) :: rest))) : W p l e R s m args below meth c H locs cells slots Q (F0 m pc ls st0) := by
  obtain ⟨hPc, hPm, hPo, hS⟩ := hw
  obtain ⟨d1, d2, d3, d4, d5, d6⟩ := D
  refine l_callI C ⟨hPc, S_mono hS (fun q h => Or.inr h)⟩ shC_0 ltC_0 cO10 w1 w2 w3 w4 w5 hd hk hR hsize hst hW hdg hcells hslots hM (fun H1 locs1 hw1 hk1 => kk H1 locs1 ⟨hw1.1, P_keep hPm (fun j hj hlt => hk1 _ hlt (fun z => ?_)), P_keepo hPo (fun hlt => hk1 _ hlt (fun z => ?_)), S_mono hw1.2 (fun q h => ?_)⟩)
  · rcases z with ⟨i, hi, e⟩ | z
    · exact d4 i j hi hj e.symm
    · omega
  · rcases z with ⟨i, hi, e⟩ | z
    · exact d5 i hi e.symm
    · omega
  · rcases h with ⟨i, hi, e⟩ | h
    · rw [e]; exact d1 i hi
    · exact h
/-- a call of the reference's object -/
theorem q_M (C : CX p s m args meth c cc nL own ret0 XM nM Z) (D : LD X XM ao s.heap.size) (hw : LH X XM ao s.heap.size s.heap Sc Sm fo H locs) {idx maxL k : Nat} {y : MethodName} {bytes : ByteArray} {ret : Option FieldType} {rm : Room} {As st0 : List Value}
    (w1 : Cond.methodLink own idx y ∈ UW) (w2 : Cond.instanceMethod y ∈ UW) (w3 : Cond.selects RX11 y y ∈ UW) (w4 : Cond.initialized y.cls ∈ UW) (w5 : Cond.code y bytes maxL ret ∈ UW)
    (hd : y.cls ≠ "java/lang/invoke/MethodHandle" ∧ y.cls ≠ "java/lang/invoke/VarHandle" ∧ (parseMethodDescriptor y.desc).map (fun d => d.parameters.length) = some k) (hk : As.length = k) (hR : (rm.cells = 0 ∧ rm.slots = 0) ∧ rm.frames + 1 ≤ R.frames ∧ 8 + (maxL + 11) + rm.locals ≤ R.locals) (hsize : ls.size = nL) (hst : st0 = As.reverse ++ .ref (XM.2.2 0) :: rest) (hW : (rest.map fun v => v.category).sum ≤ 8) (hdg : decode cc pc = .ok (.invokevirtual idx, 3)) (hcells : cells ≤ R.cells) (hslots : slots ≤ R.slots)
    {o : Int × S2} (hM : MI l XM shM nM Z y bytes maxL ret rm (.ref (XM.2.2 0) :: As) Sm o)
    (kk : ∀ (H1 : Heap) (locs1 : List Loc), LH X XM ao s.heap.size s.heap Sc o.2 fo H1 locs1 → W p l e R s m args below meth c H1 locs1 cells slots Q (F0 m (pc + 3) ls (.int (iz o.1) :: rest))) : W p l e R s m args below meth c H locs cells slots Q (F0 m pc ls st0) := by
  obtain ⟨hPc, hPm, hPo, hS⟩ := hw
  obtain ⟨d1, d2, d3, d4, d5, d6⟩ := D
  refine l_callI C ⟨hPm, S_mono hS (fun q h => Or.inr h)⟩ shM_0 ltM_0 cO11 w1 w2 w3 w4 w5 hd hk hR hsize hst hW hdg hcells hslots hM (fun H1 locs1 hw1 hk1 => kk H1 locs1 ⟨P_keep hPc (fun j hj hlt => hk1 _ hlt (fun z => ?_)), hw1.1, P_keepo hPo (fun hlt => hk1 _ hlt (fun z => ?_)), S_mono hw1.2 (fun q h => ?_)⟩)
  · rcases z with ⟨i, hi, e⟩ | z
    · exact d4 j i hj hi e
    · omega
  · rcases z with ⟨i, hi, e⟩ | z
    · exact d6 i hi e.symm
    · omega
  · rcases h with ⟨i, hi, e⟩ | h
    · rw [e]; exact d2 i hi
    · exact h
theorem preL_blind {X : XT} {S : S2} {ao : Nat} {fo : Nat → Int64} {av : List Value} {sz : Nat} : FrameBlind (va_Pc av (PreL X S ao fo sz)) := by
  intro a U g mk q
  obtain ⟨q0, q1, q2⟩ := q
  have h := preP_blind (X := X) (sh := shC) (n := nC) (S := S) (av := av) (sz := sz) (zc_ok X) a U g mk ⟨q0, q1⟩
  exact ⟨q0, h.2, q2⟩
/-- a call of the law's helper -/
theorem q_L (hlt : l.stackTraces = false) (C : CX p s m args meth c cc nL own ret0 X nC (Zc X)) (hzx : ZX (XA X nC s.heap.size) s s.heap) (D : LD X XM ao s.heap.size) (hw : LH X XM ao s.heap.size s.heap Sc Sm fo H locs) {idx : Nat} {a b : Int} {st0 : List Value}
    (w1 : Cond.methodLink own idx yL_peak ∈ UW) (w2 : Cond.static yL_peak ∈ UW) (w4 : Cond.initialized yL_peak.cls ∈ UW) (w5 : Cond.codeWith yL_peak cL_peak 5 (some .int) [(0, 10, 13, 13)] ∈ UW)
    (hR : rmL_peak.frames + 1 ≤ R.frames ∧ 8 + (5 + 11) + rmL_peak.locals ≤ R.locals) (hsize : ls.size = nL) (hst : st0 = .ref ao :: .int (iz b) :: .int (iz a) :: .ref (X.2.2 0) :: rest) (hW : (rest.map fun v => v.category).sum ≤ 8) (hdg : decode cc pc = .ok (.invokestatic idx, 3)) (hcells : cells + 1 ≤ R.cells) (hslots : slots + 6 ≤ R.slots)
    {N : Nat} {o : Option Int × S2} (hf : f_X10_peak N Sc a b = some o)
    (kk : ∀ (fo1 : Nat → Int64) (H1 : Heap) (locs1 : List Loc), LH X XM ao s.heap.size s.heap o.2 Sm fo1 H1 locs1 → (∀ v, o.1 = some v → fo1 0 = (iz v).toInt64) → W p l e R s m args below meth c H1 locs1 (cells + 1) (slots + 6) Q (F0 m (pc + 3) ls (.int (iz (if o.1.isSome then 0 else 1)) :: rest))) : W p l e R s m args below meth c H locs cells slots Q (F0 m pc ls st0) := by
  subst hst
  obtain ⟨hPc, hPm, hPo, hS⟩ := hw
  obtain ⟨d1, d2, d3, d4, d5, d6⟩ := D
  have hts := C.1.2.2.2.2
  have hw1 : WH X shC nC s Sc H locs := ⟨hPc, S_mono hS (fun q h => Or.inr h)⟩
  have hsub : ∀ q, AL X ao H.size q → s.heap.size ≤ q := fun q h => by
    rcases h with (⟨i, hi, e⟩ | h) | h
    · rw [e]; exact d1 i hi
    · exact Nat.le_trans hS.1 h
    · rw [h]; exact d3
  refine va_calli (vx_runSW (n := 4) (As := [.ref (X.2.2 0), .int (iz a), .int (iz b), .ref ao]) (hh := [(0, 10, 13, 13)]) (bytes := cL_peak) (maxL := 5) (ret := some .int) C.1 (c_L_peak l hlt X C.2.2.2.1 (zc_ok X) N Sc a b o hf ao (fun i hi => d5 i hi) fo H.size) ⟨⟨rfl, rfl, hR.1, hR.2, fun w hwm a' U hWU => ?_, List.mem_cons_self⟩, hts _ w5, hts _ w4, (by decide +kernel), (fun sig hs => ?_), hts _ w1, hts _ w2⟩ ⟨preL_blind, fun U hU hWU => ?_⟩ rfl rfl hsize rfl (lv_room hW) hdg ⟨hcells, hslots⟩) hS (fun q _ h => hsub q h) hsub (fun r1 u t H1 locs1 ht hvm hr hB hz hk1 hS1 => ?_)
  · rcases List.mem_cons.mp hwm with rfl | hwm
    · exact word_at hWU (uw_good _ w5).2 (hts _ w5)
    · exact word_at hWU (uw_good _ hwm).2 (hts _ hwm)
  · have : (parseMethodDescriptor yL_peak.desc).map (fun d => d.parameters.length) = some 4 := by decide +kernel
    rw [hs] at this
    exact (Option.some.inj this).symm
  · have h := preP_of C hw1 hzx (av := [.ref (X.2.2 0), .int (iz a), .int (iz b), .ref ao]) U hU hWU
    exact ⟨h.1, h.2, by rw [hU]; exact hPo⟩
  · have hr : r1 = iz (if o.1.isSome then 0 else 1) := hr
    subst hr
    obtain ⟨hB1, fo1, hB2, hB3⟩ := hB
    rw [ht] at hB1 hB2
    refine kk fo1 H1 locs1 ⟨hB1, P_keep hPm (fun j hj hlt => hk1 _ hlt (fun z => ?_)), hB2, hS1⟩ hB3
    rcases z with (⟨i, hi, e⟩ | z) | z
    · exact d4 i j hi hj e.symm
    · omega
    · exact d6 j hj z
/-- aload_0; iload 4; iconst k; iadd; iaload: the script's int at 6 t + k -/
theorem l_ld (hx : p.tables.exec = Jvm.exec) (hb : c.code = cc) {b L t k : Nat} {xs : Nat → Int32} (hX : va_X b L xs s s.heap) (hbl : b < s.heap.size) (hS : va_S (fun q => s.heap.size ≤ q) s.heap H locs) (hL : L ≤ 3072) (ht : 6 * t + 6 ≤ L) (hk : k < 6) {lv : List (Nat × Value)} (hl : lv_has ls 7 ((4, .int (iz ((6 * t : Nat) : Int))) :: (0, .ref b) :: lv))
    (d0 : decode cc pc = .ok (.aload_n 0, 1)) (d1 : decode cc (pc + 1) = .ok (.iload 4, 2)) (d3 : decode cc (pc + 3) = .ok (.iconst (k : Int), 1)) (d4 : decode cc (pc + 4) = .ok (.iadd, 1)) (d5 : decode cc (pc + 5) = .ok (.iaload, 1))
    (kk : W p l e R s m args below meth c H locs cells slots Q (F0 m (pc + 6) ls (.int (iz (xs (6 * t + k)).toInt) :: rest))) : W p l e R s m args below meth c H locs cells slots Q (F0 m pc ls rest) := by
  refine lv_aload_n hx hb d0 rfl (lv_at hl 1 rfl) ?_
  refine lv_iload hx hb d1 (lv_at hl 0 rfl) ?_
  refine lv_iconst (v := iz (k : Int)) hx hb d3 rfl ?_
  refine lv_iadd hx hb d4 ?_
  rw [iz_add]
  have e : ((6 * t : Nat) : Int) + (k : Int) = ((6 * t + k : Nat) : Int) := by omega
  rw [e]
  refine va_sld hx hb hX hbl (Nat.not_le.mpr hbl) hS (iz_vp (by omega) (by omega) (by omega)) d5 ?_
  rw [iz_nat (by omega) (by omega), Int.toNat_natCast, ← iz_toInt (xs (6 * t + k))]
  exact kk
end LAWROWS
