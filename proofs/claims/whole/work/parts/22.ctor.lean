/-! CONSTRUCTORS. The world grows: a list of cells; the object under construction at a, all else newer than the method's entry. -/
def AN (a sz : Nat) : Nat → Prop := fun q => q = a ∨ sz ≤ q
def NN (U : State) : Prop := (va_Nw (Jvm.Cond.methodLinkNest "TracePeaks" (9 : Nat) ({ cls := "TracePeaks$Reader", name := "<init>", desc := "()V" } : Jvm.MethodName) "TracePeaks") U ∧ va_Nw (Jvm.Cond.methodLinkNest "TracePeaks$Reader" (11 : Nat) ({ cls := "TracePeaks$Tape", name := "<init>", desc := "()V" } : Jvm.MethodName) "TracePeaks") U ∧ va_Nw (Jvm.Cond.methodLinkNest "TracePeaks" (23 : Nat) ({ cls := "TracePeaks$Curve", name := "<init>", desc := "()V" } : Jvm.MethodName) "TracePeaks") U ∧ va_Nw (Jvm.Cond.methodLinkNest "TracePeaks" (30 : Nat) ({ cls := "TracePeaks$Peaks", name := "<init>", desc := "()V" } : Jvm.MethodName) "TracePeaks") U ∧ va_Nw (Jvm.Cond.methodLinkNest "TracePeaks" (37 : Nat) ({ cls := "TracePeaks$Library", name := "<init>", desc := "()V" } : Jvm.MethodName) "TracePeaks") U ∧ va_Nw (Jvm.Cond.methodLinkNest "TracePeaks$History" (17 : Nat) ({ cls := "TracePeaks$Curve", name := "<init>", desc := "()V" } : Jvm.MethodName) "TracePeaks") U ∧ va_Nw (Jvm.Cond.methodLinkNest "TracePeaks" (51 : Nat) ({ cls := "TracePeaks$Log", name := "<init>", desc := "()V" } : Jvm.MethodName) "TracePeaks") U ∧ va_Nw (Jvm.Cond.methodLinkNest "TracePeaks" (77 : Nat) ({ cls := "TracePeaks$Script", name := "<init>", desc := "()V" } : Jvm.MethodName) "TracePeaks") U ∧ va_Nw (Jvm.Cond.methodLinkNest "TracePeaks" (84 : Nat) ({ cls := "TracePeaks$Draws", name := "<init>", desc := "()V" } : Jvm.MethodName) "TracePeaks") U ∧ va_Nw (Jvm.Cond.methodLinkNest "TracePeaks" (91 : Nat) ({ cls := "TracePeaks$Spelling", name := "<init>", desc := "()V" } : Jvm.MethodName) "TracePeaks") U) ∧ va_AO "TracePeaks$Script" U ∧ va_AO "TracePeaks$Curve" U
theorem nn_warm {s U : State} (hW : s.WarmedH U.vm) (h : NN s) : NN U := ⟨⟨va_Nw.warmM hW h.1.1, va_Nw.warmM hW h.1.2.1, va_Nw.warmM hW h.1.2.2.1, va_Nw.warmM hW h.1.2.2.2.1, va_Nw.warmM hW h.1.2.2.2.2.1, va_Nw.warmM hW h.1.2.2.2.2.2.1, va_Nw.warmM hW h.1.2.2.2.2.2.2.1, va_Nw.warmM hW h.1.2.2.2.2.2.2.2.1, va_Nw.warmM hW h.1.2.2.2.2.2.2.2.2.1, va_Nw.warmM hW h.1.2.2.2.2.2.2.2.2.2⟩, va_AO.moved hW.alike h.2.1, va_AO.moved hW.alike h.2.2⟩
theorem nn_same {u U : State} (hv : u.vm = U.vm) (h : NN u) : NN U := ⟨⟨va_Nw.same rfl hv h.1.1, va_Nw.same rfl hv h.1.2.1, va_Nw.same rfl hv h.1.2.2.1, va_Nw.same rfl hv h.1.2.2.2.1, va_Nw.same rfl hv h.1.2.2.2.2.1, va_Nw.same rfl hv h.1.2.2.2.2.2.1, va_Nw.same rfl hv h.1.2.2.2.2.2.2.1, va_Nw.same rfl hv h.1.2.2.2.2.2.2.2.1, va_Nw.same rfl hv h.1.2.2.2.2.2.2.2.2.1, va_Nw.same rfl hv h.1.2.2.2.2.2.2.2.2.2⟩, va_AO.moved (by rw [hv]; exact Vm.Alike.refl _) h.2.1, va_AO.moved (by rw [hv]; exact Vm.Alike.refl _) h.2.2⟩
def PreN (X : XT) (a ci : Nat) (fs0 : List Value) (sz : Nat) : State → Prop := fun U => U.heap.size = sz ∧ va_P X.1 vwCl [(a, .inr (ci, fs0))] U.heap ∧ XK X U ∧ NN U
/-- a constructor: out of the object's cell at a come the cells Fin a u, u the new addresses -/
def NC (l : Launch) (X : XT) (y : MethodName) (cc : ByteArray) (maxL : Nat) (rm : Room) (ci : Nat) (fs0 : List Value) (Fin : XT → Nat → (Nat → Nat) → va_W) (k ns : Nat) : Prop :=
  ∀ a sz, Met l y (.code y cc maxL none :: UW) rm (va_Pc [.ref a] (PreN X a ci fs0 sz)) (va_Qv (fun _ : Nat → Nat => True) (fun u t => va_P X.1 vwCl (Fin X a u) t.heap ∧ va_D (AN a sz) (Fin X a u)) (AN a sz)) k ns (AN a sz)
def CN (p : Program) (s : State) (m : MethodId) (args : Array Value) (meth : Method) (c : Code) (cc : ByteArray) (nL : Nat) (own : String) (X : XT) : Prop :=
  CallFix p m c cc nL s args UW own ∧ meth.locks = false ∧ meth.sig.returnType = none ∧ meth.name = "<init>" ∧ XK X s ∧ NN s
def BW (X : XT) (a sz : Nat) (H0 : Heap) (W : va_W) (H : Heap) (locs : List Loc) : Prop := va_P X.1 vwCl W H ∧ va_D (AN a sz) W ∧ va_S (AN a sz) H0 H locs
theorem preN_blind {X : XT} {a ci sz : Nat} {fs0 : List Value} {av : List Value} : FrameBlind (va_Pc av (PreN X a ci fs0 sz)) := by
  intro b U g mk q
  obtain ⟨q0, q1, q2, q3, q4⟩ := q
  exact ⟨q0, q1, q2, va_K.moved (u := U) (U := U.calling g mk b) (Vm.Alike.refl U.vm) q3, nn_same rfl q4⟩
theorem BW_join {X : XT} {a z q : Nat} {e : va_E} {W0 W1 : va_W} {H H1 : Heap} (hP : va_P X.1 vwCl (W0 ++ [(q, e)]) H) (hD : va_D (AN a z) (W0 ++ [(q, e)])) (hz : z ≤ H.size) (hk : ∀ r : Nat, r < H.size → ¬ AN q H.size r → H1[r]? = H[r]?) (hP1 : va_P X.1 vwCl W1 H1) (hD1 : va_D (AN q H.size) W1) : va_P X.1 vwCl (W0 ++ W1) H1 ∧ va_D (AN a z) (W0 ++ W1) := by
  have g0 : ∀ (k : Nat) (x : Nat × va_E), W0[k]? = some x → (W0 ++ [(q, e)])[k]? = some x ∧ k < W0.length := fun k x hx => by
    have hl := (List.getElem?_eq_some_iff.mp hx).1
    exact ⟨by rw [List.getElem?_append_left hl]; exact hx, hl⟩
  have gq : (W0 ++ [(q, e)])[W0.length]? = some (q, e) := by simp
  have hne : ∀ (k : Nat) (x : Nat × va_E), W0[k]? = some x → x.1 ≠ q := fun k x hx he => by
    have h1 := g0 k x hx
    have h2 := hD.1 k W0.length x (q, e) h1.1 gq he
    omega
  have hlt : ∀ (k : Nat) (x : Nat × va_E), W0[k]? = some x → x.1 < H.size := fun k x hx => (hP k x (g0 k x hx).1).lt
  have hP0 : va_P X.1 vwCl W0 H1 := fun k x hx => ((hP k x (g0 k x hx).1)).kept (hk x.1 (hlt k x hx) (fun z => by
    rcases z with z | z
    · exact hne k x hx z
    · have := hlt k x hx; omega))
  refine ⟨hP0.app hP1, fun i j x y hi hj he => ?_, fun k x hx => ?_⟩
  · by_cases h1 : i < W0.length <;> by_cases h2 : j < W0.length
    · rw [List.getElem?_append_left h1] at hi; rw [List.getElem?_append_left h2] at hj
      exact hD.1 i j x y (g0 i x hi).1 (g0 j y hj).1 he
    · rw [List.getElem?_append_left h1] at hi; rw [List.getElem?_append_right (by omega)] at hj
      have h3 := hD1.2 _ y hj
      rcases h3 with h3 | h3
      · exact absurd (he.trans h3) (hne i x hi)
      · have := hlt i x hi; omega
    · rw [List.getElem?_append_right (by omega)] at hi; rw [List.getElem?_append_left h2] at hj
      have h3 := hD1.2 _ x hi
      rcases h3 with h3 | h3
      · exact absurd (he.symm.trans h3) (hne j y hj)
      · have := hlt j y hj; omega
    · rw [List.getElem?_append_right (by omega)] at hi; rw [List.getElem?_append_right (by omega)] at hj
      have := hD1.1 _ _ x y hi hj he
      omega
  · by_cases h1 : k < W0.length
    · rw [List.getElem?_append_left h1] at hx
      exact hD.2 k x (g0 k x hx).1
    · rw [List.getElem?_append_right (by omega)] at hx
      rcases hD1.2 _ x hx with h3 | h3
      · rw [h3]; exact hD.2 _ _ gq
      · exact Or.inr (Nat.le_trans hz h3)
theorem RA_int {X : XT} {s : State} (hK : XK X s) {cA : ClassId} (h : va_RA s cA .int) : cA = X.2.1 0 := Option.some.inj (h.symm.trans (hK.2 0 _ rfl).2)
theorem RA_char {X : XT} {s : State} (hK : XK X s) {cA : ClassId} (h : va_RA s cA .char) : cA = X.2.1 1 := Option.some.inj (h.symm.trans (hK.2 1 _ rfl).2)
theorem RA_long {X : XT} {s : State} (hK : XK X s) {cA : ClassId} (h : va_RA s cA .long) : cA = X.2.1 2 := Option.some.inj (h.symm.trans (hK.2 2 _ rfl).2)
theorem RA_obj {X : XT} {s : State} {t : Nat} {Cn : String} (hK : XK X s) (ht : (tysA X.2.1)[t]? = some (X.2.1 t, .object Cn)) {cA : ClassId} (h : va_RA s cA (.object Cn)) : cA = X.2.1 t := by
  obtain ⟨_, _, -, -, -, h1⟩ := h
  obtain ⟨_, _, -, -, -, h2⟩ := (hK.2 t _ ht).2
  exact Option.some.inj (h1.symm.trans h2)
theorem K_last {X : XT} {s : State} {cA : ClassId} {ty : FieldType} (h : va_K X.1 vwCl (tysA X.2.1 ++ [(cA, ty)]) s) : va_RA s cA ty := (h.2 5 (cA, ty) rfl).2
section CTOR
variable {p : Program} {l : Launch} {e : Env} {R : Room} {s : State} {m : MethodId} {args : Array Value} {below : List Frame} {meth : Method} {c : Code} {H : Heap} {locs : List Loc} {cells slots : Nat} {Q : State → Prop}
variable {cc : ByteArray} {pc nL : Nat} {own : String} {ls : Array Slot} {rest : List Value} {X : XT} {V : va_W} {a : Nat}
theorem n_obj (C : CN p s m args meth c cc nL own X) {idx : Nat} {v : Nat} (w1 : Cond.methodLink own idx Lib.objectInit ∈ UW) (w2 : Cond.instanceMethod Lib.objectInit ∈ UW) (w3 : Cond.code Lib.objectInit ⟨#[0xb1]⟩ 1 none ∈ UW) (hsize : ls.size = nL) (hdg : decode cc pc = .ok (.invokespecial idx, 3)) (hframes : 1 ≤ R.frames) (hlocals : 12 ≤ R.locals)
    (kk : W p l e R s m args below meth c H locs cells slots Q (F0 m (pc + 3) ls [])) : W p l e R s m args below meth c H locs cells slots Q (F0 m pc ls [.ref v]) := by
  obtain ⟨⟨hx, hb, hml, hown, hts⟩, -, -, -, -, -⟩ := C
  refine W.objInit hx hb hown (hts _ w1) (hts _ w2) (hts _ w3) rfl (by rw [hml]; exact hsize) rfl hdg hframes (by simpa using hlocals) ?_
  exact kk
theorem n_new (C : CN p s m args meth c cc nL own X) (hw : BW X a s.heap.size s.heap V H locs) {ci idx N : Nat} {Cn : String} {T : u_T} {ty0 : Nat → FieldType} {fs : List Value} (O : ClsOK ci Cn T N ty0) (hfs : ∀ j, j < N → defaultValue (ty0 j) = vp_V fs j) (w1 : Cond.classLink own idx Cn ∈ UW) (w2 : Cond.instantiable Cn N ∈ UW) (w3 : Cond.initialized Cn ∈ UW) (hcells : cells + 1 ≤ R.cells) (hslots : slots + N ≤ R.slots) (hdg : decode cc pc = .ok (.new idx, 3))
    (kk : ∀ (q : Nat) (H1 : Heap), BW X a s.heap.size s.heap (V ++ [(q, .inr (ci, fs))]) H1 locs → W p l e R s m args below meth c H1 locs (cells + 1) (slots + N) Q (F0 m (pc + 3) ls (.ref q :: rest))) : W p l e R s m args below meth c H locs cells slots Q (F0 m pc ls rest) := by
  obtain ⟨⟨hx, hb, hml, hown, hts⟩, -, -, -, hK, -⟩ := C
  exact va_new hx hb hts O.2.1 ty0 O.2.2.1 hown (hts _ w1) (hts _ w2) (hts _ w3) hK hw.1 hw.2.1 hw.2.2 (fun q h => Or.inr h) O.1 hfs hcells hslots hdg (fun q H1 hP hD hS => kk q H1 ⟨hP, hD, hS⟩)
theorem n_newI (C : CN p s m args meth c cc nL own X) (hw : BW X a s.heap.size s.heap V H locs) (w1 : Cond.arrayClass .int ∈ UW) {n : Int32} {N : Nat} (hn : ¬ n < 0) (hN : n.toNatClampNeg = N) (hbytes : N * componentBytes .int ≤ 536870912) (hcells : cells + 1 ≤ R.cells) (hslots : slots + N ≤ R.slots) (hdg : decode cc pc = .ok (.newarray .int, 2))
    (kk : ∀ (q : Nat) (H1 : Heap), BW X a s.heap.size s.heap (V ++ [(q, .inl (X.2.1 0, N, .inl (fun _ => 0)))]) H1 locs → W p l e R s m args below meth c H1 locs (cells + 1) (slots + N) Q (F0 m (pc + 2) ls (.ref q :: rest))) : W p l e R s m args below meth c H locs cells slots Q (F0 m pc ls (.int n :: rest)) := by
  obtain ⟨⟨hx, hb, hml, hown, hts⟩, -, -, -, hK, -⟩ := C
  refine va_newa (atype := .int) hx hb (hts _ w1) rfl hK hw.1 hw.2.1 hw.2.2 (fun q h => Or.inr h) (N' := N) (a0 := (N, .inl (fun _ => 0))) (fun _ => rfl) hn hN hbytes hcells hslots hdg (fun q cA H1 hK1 hP hD hS => kk q H1 ?_)
  have e := RA_int hK (K_last hK1)
  subst e
  exact ⟨hP, hD, hS⟩
theorem n_newC (C : CN p s m args meth c cc nL own X) (hw : BW X a s.heap.size s.heap V H locs) (w1 : Cond.arrayClass .char ∈ UW) {n : Int32} {N : Nat} (hn : ¬ n < 0) (hN : n.toNatClampNeg = N) (hbytes : N * componentBytes .char ≤ 536870912) (hcells : cells + 1 ≤ R.cells) (hslots : slots + N ≤ R.slots) (hdg : decode cc pc = .ok (.newarray .char, 2))
    (kk : ∀ (q : Nat) (H1 : Heap), BW X a s.heap.size s.heap (V ++ [(q, .inl (X.2.1 1, N, .inl (fun _ => 0)))]) H1 locs → W p l e R s m args below meth c H1 locs (cells + 1) (slots + N) Q (F0 m (pc + 2) ls (.ref q :: rest))) : W p l e R s m args below meth c H locs cells slots Q (F0 m pc ls (.int n :: rest)) := by
  obtain ⟨⟨hx, hb, hml, hown, hts⟩, -, -, -, hK, -⟩ := C
  refine va_newa (atype := .char) hx hb (hts _ w1) rfl hK hw.1 hw.2.1 hw.2.2 (fun q h => Or.inr h) (N' := N) (a0 := (N, .inl (fun _ => 0))) (fun _ => rfl) hn hN hbytes hcells hslots hdg (fun q cA H1 hK1 hP hD hS => kk q H1 ?_)
  have e := RA_char hK (K_last hK1)
  subst e
  exact ⟨hP, hD, hS⟩
theorem n_newL (C : CN p s m args meth c cc nL own X) (hw : BW X a s.heap.size s.heap V H locs) (w1 : Cond.arrayClass .long ∈ UW) {n : Int32} {N : Nat} (hn : ¬ n < 0) (hN : n.toNatClampNeg = N) (hbytes : N * componentBytes .long ≤ 536870912) (hcells : cells + 1 ≤ R.cells) (hslots : slots + N ≤ R.slots) (hdg : decode cc pc = .ok (.newarray .long, 2))
    (kk : ∀ (q : Nat) (H1 : Heap), BW X a s.heap.size s.heap (V ++ [(q, .inl (X.2.1 2, N, .inr (.inl (fun _ => 0))))]) H1 locs → W p l e R s m args below meth c H1 locs (cells + 1) (slots + N) Q (F0 m (pc + 2) ls (.ref q :: rest))) : W p l e R s m args below meth c H locs cells slots Q (F0 m pc ls (.int n :: rest)) := by
  obtain ⟨⟨hx, hb, hml, hown, hts⟩, -, -, -, hK, -⟩ := C
  refine va_newa (atype := .long) hx hb (hts _ w1) rfl hK hw.1 hw.2.1 hw.2.2 (fun q h => Or.inr h) (N' := N) (a0 := (N, .inr (.inl (fun _ => 0)))) (fun _ => rfl) hn hN hbytes hcells hslots hdg (fun q cA H1 hK1 hP hD hS => kk q H1 ?_)
  have e := RA_long hK (K_last hK1)
  subst e
  exact ⟨hP, hD, hS⟩
theorem n_newQ (C : CN p s m args meth c cc nL own X) (hw : BW X a s.heap.size s.heap V H locs) {t idx : Nat} {Cn : String} (ht : (tysA X.2.1)[t]? = some (X.2.1 t, .object Cn)) (w1 : Cond.classLink own idx Cn ∈ UW) (hov : va_AO Cn s) {n : Int32} {N : Nat} (hn : ¬ n < 0) (hN : n.toNatClampNeg = N) (hbytes : N * 4 ≤ 536870912) (hcells : cells + 1 ≤ R.cells) (hslots : slots + N ≤ R.slots) (hdg : decode cc pc = .ok (.anewarray idx, 3))
    (kk : ∀ (q : Nat) (H1 : Heap), BW X a s.heap.size s.heap (V ++ [(q, .inl (X.2.1 t, N, .inr (.inr (.inr (.inr (fun _ => none))))))]) H1 locs → W p l e R s m args below meth c H1 locs (cells + 1) (slots + N) Q (F0 m (pc + 3) ls (.ref q :: rest))) : W p l e R s m args below meth c H locs cells slots Q (F0 m pc ls (.int n :: rest)) := by
  obtain ⟨⟨hx, hb, hml, hown, hts⟩, -, -, -, hK, -⟩ := C
  refine va_newq hx hb hown (hts _ w1) hov hK hw.1 hw.2.1 hw.2.2 (fun q h => Or.inr h) hn hN hbytes hcells hslots hdg (fun q cA H1 hK1 hP hD hS => kk q H1 ?_)
  have e := RA_obj hK ht (K_last hK1)
  subst e
  exact ⟨hP, hD, hS⟩
theorem n_put (C : CN p s m args meth c cc nL own X) (hw : BW X a s.heap.size s.heap V H locs) (q0 : Nat) {b ci k idx N : Nat} {Cn ref : String} {T : u_T} {ty0 : Nat → FieldType} {fs : List Value} (he : V[q0]? = some (b, .inr (ci, fs))) (O : ClsOK ci Cn T N ty0) (hk : k < N) (hlink : Cond.fieldLink own idx ref (T k).2.1 (T k).2.2.1 ∈ UW) (hr : (T k).1 = ref) (hfin : (T k).2.2.2 = true) (hdecl : (T k).1 = own) (hl : k < fs.length) {v : Value} (hn : narrow (ty0 k) v = v) (hfit : fits (ty0 k) v = true) (hdg : decode cc pc = .ok (.putfield idx, 3))
    (kk : ∀ (H1 : Heap) (locs1 : List Loc), BW X a s.heap.size s.heap (V.set q0 (b, .inr (ci, fs.set k v))) H1 locs1 → W p l e R s m args below meth c H1 locs1 cells slots Q (F0 m (pc + 3) ls rest)) : W p l e R s m args below meth c H locs cells slots Q (F0 m pc ls (v :: .ref b :: rest)) := by
  obtain ⟨⟨hx, hb, hml, hown, hts⟩, -, -, hin, hK, -⟩ := C
  exact va_putF hx hb hts O.2.1 ty0 O.2.2.1 O.2.2.2 hown hK hw.1 hw.2.1 hw.2.2 q0 he O.1 k hk (hts _ hlink) (fun x h => by rw [← hr]; exact h) hfin hin hdecl (O.2.2.1 k hk) hn hfit hl hdg (fun H1 locs1 hP hD hS => kk H1 locs1 ⟨hP, hD, hS⟩)
theorem n_get (C : CN p s m args meth c cc nL own X) (hw : BW X a s.heap.size s.heap V H locs) (q0 : Nat) {b ci k idx N : Nat} {Cn ref : String} {T : u_T} {ty0 : Nat → FieldType} {fs : List Value} {v : Value} (he : V[q0]? = some (b, .inr (ci, fs))) (O : ClsOK ci Cn T N ty0) (hk : k < N) (hlink : Cond.fieldLink own idx ref (T k).2.1 (T k).2.2.1 ∈ UW) (hr : (T k).1 = ref) (hv : fs[k]? = some v) (hdg : decode cc pc = .ok (.getfield idx, 3))
    (kk : W p l e R s m args below meth c H locs cells slots Q (F0 m (pc + 3) ls (v :: rest))) : W p l e R s m args below meth c H locs cells slots Q (F0 m pc ls (.ref b :: rest)) := by
  obtain ⟨⟨hx, hb, hml, hown, hts⟩, -, -, -, hK, -⟩ := C
  exact va_get hx hb hts O.2.1 hown hK hw.1 q0 he O.1 k hk (hts _ hlink) (fun x h => by rw [← hr]; exact h) hv hdg kk
theorem n_ast (C : CN p s m args meth c cc nL own X) (hw : BW X a s.heap.size s.heap V H locs) (q0 t0 qk ci : Nat) {b n v : Nat} {r : vw_C} {vs : List Value} {f : Nat → Option Nat} (ha : V[q0]? = some (b, .inl (X.2.1 t0, n, .inr (.inr (.inr (.inr f)))))) (ht : (tysA X.2.1)[t0]? = some (X.2.1 t0, .object r.1)) (hv : V[qk]? = some (v, .inr (ci, vs))) (hc : vwCl[ci]? = some r) {i : Int32} (hin : vp_in i n) (hdg : decode cc pc = .ok (.aastore, 1))
    (kk : ∀ (H1 : Heap) (locs1 : List Loc), BW X a s.heap.size s.heap (V.set q0 (b, .inl (X.2.1 t0, n, .inr (.inr (.inr (.inr (va_up f i.toNatClampNeg (some v)))))))) H1 locs1 → W p l e R s m args below meth c H1 locs1 cells slots Q (F0 m (pc + 1) ls rest)) : W p l e R s m args below meth c H locs cells slots Q (F0 m pc ls (.ref v :: .int i :: .ref b :: rest)) := by
  obtain ⟨⟨hx, hb, hml, hown, hts⟩, -, -, -, hK, -⟩ := C
  exact va_astq hx hb hK hw.1 hw.2.1 hw.2.2 q0 t0 qk ci ha ht hv hc hin hdg (fun H1 locs1 hP hD hS => kk H1 locs1 ⟨hP, hD, hS⟩)
theorem n_callN (C : CN p s m args meth c cc nL own X) {q ci idx maxL kc ns : Nat} {fs0 : List Value} {Fin : XT → Nat → (Nat → Nat) → va_W} {y : MethodName} {bytes : ByteArray} {rm : Room} (hw : BW X a s.heap.size s.heap (V ++ [(q, .inr (ci, fs0))]) H locs) (hN : NC l X y bytes maxL rm ci fs0 Fin kc ns) (wn : NN s → va_Nw (.methodLinkNest own idx y "TracePeaks") s)
    (w2 : Cond.instanceMethod y ∈ UW) (w4 : Cond.initialized y.cls ∈ UW) (w5 : Cond.code y bytes maxL none ∈ UW) (hd : y.cls ≠ "java/lang/invoke/MethodHandle" ∧ y.cls ≠ "java/lang/invoke/VarHandle" ∧ (parseMethodDescriptor y.desc).map (fun d => d.parameters.length) = some 0) (hy : y.name = "<init>") (hR : (rm.cells = kc ∧ rm.slots = ns) ∧ rm.frames + 1 ≤ R.frames ∧ 8 + (maxL + 11) + rm.locals ≤ R.locals) (hsize : ls.size = nL) (hW : (rest.map fun v => v.category).sum ≤ 8) (hdg : decode cc pc = .ok (.invokespecial idx, 3)) (hcells : cells + kc ≤ R.cells) (hslots : slots + ns ≤ R.slots)
    (kk : ∀ (u : Nat → Nat) (H1 : Heap) (locs1 : List Loc), BW X a s.heap.size s.heap (V ++ Fin X q u) H1 locs1 → W p l e R s m args below meth c H1 locs1 (cells + kc) (slots + ns) Q (F0 m (pc + 3) ls rest)) : W p l e R s m args below meth c H locs cells slots Q (F0 m pc ls (.ref q :: rest)) := by
  have hts := C.1.2.2.2.2
  have hK := C.2.2.2.2.1
  have gq : (V ++ [(q, (Sum.inr (ci, fs0) : va_E))])[V.length]? = some (q, .inr (ci, fs0)) := by simp
  have hPq : va_P X.1 vwCl [(q, .inr (ci, fs0))] H := P_right hw.1
  have hAq : AN a s.heap.size q := hw.2.1.2 _ _ gq
  have hsz := hw.2.2.1
  have hsub : ∀ r, AN q H.size r → AN a s.heap.size r := fun r h => by
    rcases h with h | h
    · rw [h]; exact hAq
    · exact Or.inr (Nat.le_trans hsz h)
  refine va_callv (va_runIN (As := []) (rest := rest) C.1 (hN q H.size) ⟨va_cnB 0 hts (uw_ws w5) rfl hR.1.1 hR.1.2 (wn C.2.2.2.2.2) (hts _ w4) hd hR.2, hy, hts _ w2⟩ ⟨preN_blind, fun U hU hWU => ⟨rfl, by rw [hU], by rw [hU]; exact hPq, va_K.moved hWU.alike hK, nn_warm hWU C.2.2.2.2.2⟩⟩ rfl rfl hsize rfl (lv_room hW) hdg ⟨hcells, hslots⟩) hw.2.2 (fun r _ h => hsub r h) hsub (fun u t H1 locs1 ht hvm hp hB hz1 hk1 hS1 => ?_)
  obtain ⟨hP1, hD1⟩ := hB
  rw [ht] at hP1
  obtain ⟨g1, g2⟩ := BW_join hw.1 hw.2.1 hsz hk1 hP1 hD1
  exact kk u H1 locs1 ⟨g1, g2, hS1⟩
theorem n_callM (C : CN p s m args meth c cc nL own X) {q ci idx maxL kc ns : Nat} {fs0 : List Value} {Fin : XT → Nat → (Nat → Nat) → va_W} {y : MethodName} {bytes : ByteArray} {rm : Room} (hw : BW X a s.heap.size s.heap (V ++ [(q, .inr (ci, fs0))]) H locs) (hN : NC l X y bytes maxL rm ci fs0 Fin kc ns) (w1 : Cond.methodLink own idx y ∈ UW)
    (w2 : Cond.instanceMethod y ∈ UW) (w4 : Cond.initialized y.cls ∈ UW) (w5 : Cond.code y bytes maxL none ∈ UW) (hd : y.cls ≠ "java/lang/invoke/MethodHandle" ∧ y.cls ≠ "java/lang/invoke/VarHandle" ∧ (parseMethodDescriptor y.desc).map (fun d => d.parameters.length) = some 0) (hy : y.name = "<init>") (hR : (rm.cells = kc ∧ rm.slots = ns) ∧ rm.frames + 1 ≤ R.frames ∧ 8 + (maxL + 11) + rm.locals ≤ R.locals) (hsize : ls.size = nL) (hW : (rest.map fun v => v.category).sum ≤ 8) (hdg : decode cc pc = .ok (.invokespecial idx, 3)) (hcells : cells + kc ≤ R.cells) (hslots : slots + ns ≤ R.slots)
    (kk : ∀ (u : Nat → Nat) (H1 : Heap) (locs1 : List Loc), BW X a s.heap.size s.heap (V ++ Fin X q u) H1 locs1 → W p l e R s m args below meth c H1 locs1 (cells + kc) (slots + ns) Q (F0 m (pc + 3) ls rest)) : W p l e R s m args below meth c H locs cells slots Q (F0 m pc ls (.ref q :: rest)) := by
  have hts := C.1.2.2.2.2
  have hK := C.2.2.2.2.1
  have gq : (V ++ [(q, (Sum.inr (ci, fs0) : va_E))])[V.length]? = some (q, .inr (ci, fs0)) := by simp
  have hPq : va_P X.1 vwCl [(q, .inr (ci, fs0))] H := P_right hw.1
  have hAq : AN a s.heap.size q := hw.2.1.2 _ _ gq
  have hsz := hw.2.2.1
  have hsub : ∀ r, AN q H.size r → AN a s.heap.size r := fun r h => by
    rcases h with h | h
    · rw [h]; exact hAq
    · exact Or.inr (Nat.le_trans hsz h)
  refine va_callv (va_runI (As := []) (rest := rest) C.1 (hN q H.size) ⟨callB_of 0 hts (uw_ws w5) rfl hR.1.1 hR.1.2 (hts _ w4) (hts _ w1) hd hR.2, hy, hts _ w2⟩ ⟨preN_blind, fun U hU hWU => ⟨rfl, by rw [hU], by rw [hU]; exact hPq, va_K.moved hWU.alike hK, nn_warm hWU C.2.2.2.2.2⟩⟩ rfl rfl hsize rfl (lv_room hW) hdg ⟨hcells, hslots⟩) hw.2.2 (fun r _ h => hsub r h) hsub (fun u t H1 locs1 ht hvm hp hB hz1 hk1 hS1 => ?_)
  obtain ⟨hP1, hD1⟩ := hB
  rw [ht] at hP1
  obtain ⟨g1, g2⟩ := BW_join hw.1 hw.2.1 hsz hk1 hP1 hD1
  exact kk u H1 locs1 ⟨g1, g2, hS1⟩
/-- the constructor's end: k cells of ns slots are new -/
theorem n_ret (C : CN p s m args meth c cc nL own X) {Fin : XT → Nat → (Nat → Nat) → va_W} (u : Nat → Nat) (hw : BW X a s.heap.size s.heap (Fin X a u) H locs) (hdg : decode cc pc = .ok (.return_, 1)) : W p l e R s m args below meth c H locs cells slots (MQ below (va_Qv (fun _ : Nat → Nat => True) (fun u t => va_P X.1 vwCl (Fin X a u) t.heap ∧ va_D (AN a s.heap.size) (Fin X a u)) (AN a s.heap.size)) args s cells slots (AN a s.heap.size)) (F0 m pc ls []) :=
  W.vret C.1.1 C.1.2.1 C.2.2.1 (fun t ht hW => ⟨⟨u, rfl, trivial, by rw [ht]; exact hw.1, hw.2.1⟩, hw.2.2.F ht⟩) hw.2.2.2.2 hdg C.2.1
theorem met_N {y : MethodName} {maxL k ns ci : Nat} {rm : Room} {fs0 : List Value} {Fin : XT → Nat → (Nat → Nat) → va_W} (hy : plainName y.cls = true) (ho : y.cls = own) (hyn : y.name = "<init>") (hml1 : 1 ≤ maxL)
    (body : ∀ (p : Program) (e : Env) (s : State) (m : MethodId) (args : Array Value) (below : List Frame) (meth : Method) (c : Code) (a : Nat), CN p s m args meth c cc maxL own X → ∀ (ls : Array Slot), BW X a s.heap.size s.heap [(a, .inr (ci, fs0))] s.heap [] → lv_has ls maxL [(0, .ref a)] → W p l e rm s m args below meth c s.heap [] 0 0 (MQ below (va_Qv (fun _ : Nat → Nat => True) (fun u t => va_P X.1 vwCl (Fin X a u) t.heap ∧ va_D (AN a s.heap.size) (Fin X a u)) (AN a s.heap.size)) args s k ns (AN a s.heap.size)) (F0 m 0 ls [])) : NC l X y cc maxL rm ci fs0 Fin k ns := by
  intro a sz
  refine Met.ofW (cc := cc) (maxL := maxL) (ret := none) hy rfl ?_
  intro p e s m args below meth c s₁ B hml hv
  obtain ⟨rfl, hsz, hP, hK, hn⟩ := hv
  have hts := atoms_spec (ws := .code y cc maxL none :: UW) B.pre
  have hown : s.vm.findClass own = some m.cls := by rw [← ho]; exact findClass_of_methodNamed B.named
  have hin : meth.name = "<init>" := (name_of_methodNamed B.named B.method).1.trans hyn
  subst hsz
  have hl := lv_entry [.ref a] (n := maxL) hml1
  rw [lg_entry_eq]
  generalize (lg_sl [.ref a] ++ List.replicate (maxL - (lg_sl [.ref a]).length) Slot.unset).toArray = ls at hl ⊢
  refine body p e s m _ below meth c a ⟨⟨B.exec, B.bytes, hml, hown, fun w h => hts w (List.mem_cons_of_mem _ h)⟩, B.notSynchronized, B.returns, hin, hK, hn⟩ ls ⟨hP, ⟨fun i j x y hi hj _ => ?_, fun k q hk => ?_⟩, va_S.rf⟩ hl
  · have h1 : i < 1 := (List.getElem?_eq_some_iff.mp hi).1
    have h2 : j < 1 := (List.getElem?_eq_some_iff.mp hj).1
    omega
  · have h1 : k < 1 := (List.getElem?_eq_some_iff.mp hk).1
    rw [show k = 0 by omega] at hk
    cases hk
    exact Or.inl rfl
end CTOR
