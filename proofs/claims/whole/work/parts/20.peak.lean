/-- the words of a throw that are not good: castable, declares -/
def NwX (U : State) : Prop := va_Nw (.castable xnX xnX) U ∧ va_Nw (.declares (Bundle.initS xnR)) U ∧ va_Nw (.declares (Bundle.initS xnE)) U ∧ va_Nw (.declares (Bundle.initS Bundle.tN)) U
theorem nwx_warm {s U : State} (hW : s.WarmedH U.vm) (h : NwX s) : NwX U := ⟨va_Nw.warmC hW h.1, va_Nw.warmD hW h.2.1, va_Nw.warmD hW h.2.2.1, va_Nw.warmD hW h.2.2.2⟩
theorem nwx_same {u U : State} (h : u.vm = U.vm) (q : NwX u) : NwX U := ⟨va_Nw.same rfl h q.1, va_Nw.same rfl h q.2.1, va_Nw.same rfl h q.2.2.1, va_Nw.same rfl h q.2.2.2⟩
def xtL : List Cond := [(Jvm.Cond.initialized "java/lang/Throwable"), (Jvm.Cond.superclass "java/lang/Throwable" "java/lang/Object"), (Jvm.Cond.instanceMethod ({ cls := "java/lang/Throwable", name := "fillInStackTrace", desc := "()Ljava/lang/Throwable;" } : Jvm.MethodName)), (Jvm.Cond.codeSync ({ cls := "java/lang/Throwable", name := "fillInStackTrace", desc := "()Ljava/lang/Throwable;" } : Jvm.MethodName) prog_24_method_18_code (1 : Nat) (Option.some (Jvm.ClassFile.FieldType.object "java/lang/Throwable"))), (Jvm.Cond.instanceMethod ({ cls := "java/lang/Throwable", name := "fillInStackTrace", desc := "(I)Ljava/lang/Throwable;" } : Jvm.MethodName)), (Jvm.Cond.native ({ cls := "java/lang/Throwable", name := "fillInStackTrace", desc := "(I)Ljava/lang/Throwable;" } : Jvm.MethodName)), (Jvm.Cond.instanceMethod ({ cls := "java/lang/Throwable", name := "<init>", desc := "()V" } : Jvm.MethodName)), (Jvm.Cond.code ({ cls := "java/lang/Throwable", name := "<init>", desc := "()V" } : Jvm.MethodName) prog_24_method_1_code (1 : Nat) (Option.none : Option Jvm.ClassFile.FieldType)), (Jvm.Cond.instanceMethod ({ cls := "java/lang/Object", name := "<init>", desc := "()V" } : Jvm.MethodName)), (Jvm.Cond.code ({ cls := "java/lang/Object", name := "<init>", desc := "()V" } : Jvm.MethodName) object_method_1_code (1 : Nat) (Option.none : Option Jvm.ClassFile.FieldType)), (Jvm.Cond.methodLink "java/lang/Throwable" (1 : Nat) ({ cls := "java/lang/Object", name := "<init>", desc := "()V" } : Jvm.MethodName)), (Jvm.Cond.methodLink "java/lang/Throwable" (27 : Nat) ({ cls := "java/lang/Throwable", name := "fillInStackTrace", desc := "()Ljava/lang/Throwable;" } : Jvm.MethodName)), (Jvm.Cond.methodLink "java/lang/Throwable" (202 : Nat) ({ cls := "java/lang/Throwable", name := "fillInStackTrace", desc := "(I)Ljava/lang/Throwable;" } : Jvm.MethodName)), (Jvm.Cond.fieldLink "java/lang/Throwable" (7 : Nat) "java/lang/Throwable" "cause" "Ljava/lang/Throwable;"), (Jvm.Cond.lays "java/lang/Throwable" "java/lang/Throwable" "cause" "Ljava/lang/Throwable;"), (Jvm.Cond.fieldLink "java/lang/Throwable" (17 : Nat) "java/lang/Throwable" "stackTrace" "[Ljava/lang/StackTraceElement;"), (Jvm.Cond.lays "java/lang/Throwable" "java/lang/Throwable" "stackTrace" "[Ljava/lang/StackTraceElement;"), (Jvm.Cond.fieldLink "java/lang/Throwable" (24 : Nat) "java/lang/Throwable" "suppressedExceptions" "Ljava/util/List;"), (Jvm.Cond.lays "java/lang/Throwable" "java/lang/Throwable" "suppressedExceptions" "Ljava/util/List;"), (Jvm.Cond.fieldLink "java/lang/Throwable" (13 : Nat) "java/lang/Throwable" "UNASSIGNED_STACK" "[Ljava/lang/StackTraceElement;"), (Jvm.Cond.fieldLink "java/lang/Throwable" (20 : Nat) "java/lang/Throwable" "SUPPRESSED_SENTINEL" "Ljava/util/List;"), (Jvm.Cond.lays "java/lang/Throwable" "java/lang/Throwable" "detailMessage" "Ljava/lang/String;"), (Jvm.Cond.instanceMethod ({ cls := "java/lang/Throwable", name := "<init>", desc := "(Ljava/lang/String;)V" } : Jvm.MethodName)), (Jvm.Cond.code ({ cls := "java/lang/Throwable", name := "<init>", desc := "(Ljava/lang/String;)V" } : Jvm.MethodName) prog_24_method_2_code (2 : Nat) (Option.none : Option Jvm.ClassFile.FieldType)), (Jvm.Cond.fieldLink "java/lang/Throwable" (31 : Nat) "java/lang/Throwable" "detailMessage" "Ljava/lang/String;"), (Jvm.Cond.lays "java/lang/Throwable" "java/lang/Throwable" "detailMessage" "Ljava/lang/String;"), (Jvm.Cond.instanceMethod ({ cls := "java/util/NoSuchElementException", name := "<init>", desc := "(Ljava/lang/String;)V" } : Jvm.MethodName)), (Jvm.Cond.code ({ cls := "java/util/NoSuchElementException", name := "<init>", desc := "(Ljava/lang/String;)V" } : Jvm.MethodName) prog_27_method_4_code (2 : Nat) (Option.none : Option Jvm.ClassFile.FieldType)), (Jvm.Cond.methodLink "java/util/NoSuchElementException" (13 : Nat) ({ cls := "java/lang/RuntimeException", name := "<init>", desc := "(Ljava/lang/String;)V" } : Jvm.MethodName)), (Jvm.Cond.instanceMethod ({ cls := "java/lang/RuntimeException", name := "<init>", desc := "(Ljava/lang/String;)V" } : Jvm.MethodName)), (Jvm.Cond.declares ({ cls := "java/lang/RuntimeException", name := "<init>", desc := "(Ljava/lang/String;)V" } : Jvm.MethodName)), (Jvm.Cond.instanceMethod ({ cls := "java/lang/RuntimeException", name := "<init>", desc := "(Ljava/lang/String;)V" } : Jvm.MethodName)), (Jvm.Cond.code ({ cls := "java/lang/RuntimeException", name := "<init>", desc := "(Ljava/lang/String;)V" } : Jvm.MethodName) prog_19_method_2_code (2 : Nat) (Option.none : Option Jvm.ClassFile.FieldType)), (Jvm.Cond.methodLink "java/lang/RuntimeException" (7 : Nat) ({ cls := "java/lang/Exception", name := "<init>", desc := "(Ljava/lang/String;)V" } : Jvm.MethodName)), (Jvm.Cond.instanceMethod ({ cls := "java/lang/Exception", name := "<init>", desc := "(Ljava/lang/String;)V" } : Jvm.MethodName)), (Jvm.Cond.declares ({ cls := "java/lang/Exception", name := "<init>", desc := "(Ljava/lang/String;)V" } : Jvm.MethodName)), (Jvm.Cond.instanceMethod ({ cls := "java/lang/Exception", name := "<init>", desc := "(Ljava/lang/String;)V" } : Jvm.MethodName)), (Jvm.Cond.code ({ cls := "java/lang/Exception", name := "<init>", desc := "(Ljava/lang/String;)V" } : Jvm.MethodName) prog_17_method_2_code (2 : Nat) (Option.none : Option Jvm.ClassFile.FieldType)), (Jvm.Cond.methodLink "java/lang/Exception" (7 : Nat) ({ cls := "java/lang/Throwable", name := "<init>", desc := "(Ljava/lang/String;)V" } : Jvm.MethodName)), (Jvm.Cond.instanceMethod ({ cls := "java/lang/Throwable", name := "<init>", desc := "(Ljava/lang/String;)V" } : Jvm.MethodName)), (Jvm.Cond.declares ({ cls := "java/lang/Throwable", name := "<init>", desc := "(Ljava/lang/String;)V" } : Jvm.MethodName)), (Jvm.Cond.methodLink "TracePeaks" (181 : Nat) ({ cls := "java/util/NoSuchElementException", name := "<init>", desc := "(Ljava/lang/String;)V" } : Jvm.MethodName)), (Jvm.Cond.instantiable "java/util/NoSuchElementException" (6 : Nat)), (Jvm.Cond.castable "java/util/NoSuchElementException" "java/util/NoSuchElementException"), (Jvm.Cond.selects "java/util/NoSuchElementException" ({ cls := "java/lang/Throwable", name := "fillInStackTrace", desc := "(I)Ljava/lang/Throwable;" } : Jvm.MethodName) ({ cls := "java/lang/Throwable", name := "fillInStackTrace", desc := "(I)Ljava/lang/Throwable;" } : Jvm.MethodName)), (Jvm.Cond.selects "java/util/NoSuchElementException" ({ cls := "java/lang/Throwable", name := "fillInStackTrace", desc := "()Ljava/lang/Throwable;" } : Jvm.MethodName) ({ cls := "java/lang/Throwable", name := "fillInStackTrace", desc := "()Ljava/lang/Throwable;" } : Jvm.MethodName)), (Jvm.Cond.lays "java/util/NoSuchElementException" "java/lang/Throwable" "cause" "Ljava/lang/Throwable;"), (Jvm.Cond.lays "java/util/NoSuchElementException" "java/lang/Throwable" "stackTrace" "[Ljava/lang/StackTraceElement;"), (Jvm.Cond.lays "java/util/NoSuchElementException" "java/lang/Throwable" "suppressedExceptions" "Ljava/util/List;"), (Jvm.Cond.lays "java/util/NoSuchElementException" "java/lang/Throwable" "detailMessage" "Ljava/lang/String;"), (Jvm.Cond.fieldLink "java/lang/Throwable" (198 : Nat) "java/lang/Throwable" "backtrace" "Ljava/lang/Object;"), (Jvm.Cond.lays "java/lang/Throwable" "java/lang/Throwable" "backtrace" "Ljava/lang/Object;"), (Jvm.Cond.lays "java/util/NoSuchElementException" "java/lang/Throwable" "backtrace" "Ljava/lang/Object;")]
set_option maxRecDepth 100000 in
theorem xt_list : (xtA RX10 181).filter vx_no = xtL := by decide +kernel
theorem xt_hat {args : Array Value} {s : State} (hts : ∀ w ∈ UW, w.before args s = true) (hn : NwX s) : ∀ w ∈ (xtA RX10 181).filter vx_no, w.before args s = true := by
  rw [xt_list]
  exact (vx_c (hts _ tw1_19) (vx_c (hts _ (um_5 (List.mem_of_getElem? (i := 86) rfl) rfl)) (vx_c (hts _ tw5_95) (vx_c (hts _ (um_5 (List.mem_of_getElem? (i := 97) rfl) rfl)) (vx_c (hts _ tw5_100) (vx_c (hts _ tw5_102) (vx_c (hts _ tw5_87) (vx_c (hts _ tw5_88) (vx_c (hts _ tw1_29) (vx_c (hts _ tw1_30) (vx_c (hts _ tw5_89) (vx_c (hts _ tw5_94) (vx_c (hts _ tw5_98) (vx_c (hts _ tw5_118) (vx_c (hts _ tw5_76) (vx_c (hts _ tw5_119) (vx_c (hts _ tw5_78) (vx_c (hts _ tw5_120) (vx_c (hts _ tw5_80) (vx_c (hts _ tw5_90) (vx_c (hts _ tw5_92) (vx_c (hts _ tw5_82) (vx_c (hts _ tw5_114) (vx_c (hts _ tw5_115) (vx_c (hts _ tw5_117) (vx_c (hts _ tw5_82) (vx_c (hts _ tw5_105) (vx_c (hts _ tw5_106) (vx_c (hts _ tw5_107) (vx_c (hts _ tw5_108) (vx_c (va_Nw.use rfl hn.2.1) (vx_c (hts _ tw5_108) (vx_c (hts _ tw5_109) (vx_c (hts _ tw5_110) (vx_c (hts _ tw5_111) (vx_c (va_Nw.use rfl hn.2.2.1) (vx_c (hts _ tw5_111) (vx_c (hts _ tw5_112) (vx_c (hts _ tw5_113) (vx_c (hts _ tw5_114) (vx_c (va_Nw.use rfl hn.2.2.2) (vx_c (hts _ tw5_104) (vx_c (hts _ tw5_65) (vx_c (va_Nw.use rfl hn.1) (vx_c (hts _ tw5_73) (vx_c (hts _ tw5_74) (vx_c (hts _ tw5_75) (vx_c (hts _ tw5_77) (vx_c (hts _ tw5_79) (vx_c (hts _ tw5_81) (vx_c (hts _ tw5_85) (vx_c (hts _ tw5_84) (vx_c (hts _ tw5_83) vx_n)))))))))))))))))))))))))))))))))))))))))))))))))))))
theorem xt_all : (Cond.classLink RX10 177 xnX :: Cond.initialized xnX :: xtL).all vx_ot = true := by decide +kernel
theorem xt_good : ∀ w ∈ Cond.classLink RX10 177 xnX :: Cond.initialized xnX :: (xtA RX10 181).filter vx_no, vx_ot w = true := by
  rw [xt_list]
  exact fun w hw => List.all_eq_true.mp xt_all w hw
/-- what a method that may throw wants beside: where Throwable's statics lie, and the words above -/
def ZX (A : Nat → Prop) (U : State) (H : Heap) : Prop := vx_Zq Bundle.tN "UNASSIGNED_STACK" Bundle.steD A U H ∧ vx_Zq Bundle.tN "SUPPRESSED_SENTINEL" Bundle.listD A U H ∧ NwX U
theorem zx_warm {A : Nat → Prop} {s U : State} {H : Heap} (hW : s.WarmedH U.vm) (h : ZX A s H) : ZX A U H := ⟨vx_Zq.moved hW.alike h.1, vx_Zq.moved hW.alike h.2.1, nwx_warm hW h.2.2⟩
theorem zx_kept {A : Nat → Prop} {U : State} {H H1 : Heap} (hq : ∀ a : Nat, a < H.size → ¬ A a → H1[a]? = H[a]?) (h : ZX A U H) : ZX A U H1 := ⟨h.1.kept hq, h.2.1.kept hq, h.2.2⟩
theorem zx_narrow {A B : Nat → Prop} {U : State} {H : Heap} (hAB : ∀ q, B q → A q) (h : ZX A U H) : ZX B U H := ⟨h.1.narrow hAB, h.2.1.narrow hAB, h.2.2⟩
theorem zx_call {A : Nat → Prop} {U : State} {H : Heap} (g : JFrame) (mk : MethodId) (a : Array Value) (h : ZX A U H) : ZX A (U.calling g mk a) H := ⟨vx_Zq.moved (u := U) (U := U.calling g mk a) (Vm.Alike.refl U.vm) h.1, vx_Zq.moved (u := U) (U := U.calling g mk a) (Vm.Alike.refl U.vm) h.2.1, nwx_same rfl h.2.2⟩
/-- a method that answers an int or throws NoSuchElementException: o = (the answer; none: thrown, the heap behind it) -/
def MP (l : Launch) (X : XT) (sh : Nat → Sh) (n : Nat) (Z : ZT) (y : MethodName) (cc : ByteArray) (maxL : Nat) (ret : Option FieldType) (rm : Room) (av : List Value) (S : S2) (o : Option Int × S2) : Prop :=
  ∀ sz, vx_Met l y (.code y cc maxL ret :: UW) rm (va_Pc av (fun U => Pre X sh n Z S sz U ∧ ZX (XA X n sz) U U.heap)) (va_Qi (fun r (_ : Unit) => ∃ v, o.1 = some v ∧ r = iz v) (Post X sh n o.2) (XA X n sz)) (vx_X (fun _ : Unit => o.1 = none) (fun E _ t => E = xnX ∧ va_P X.1 vwCl (XW X sh n o.2) t.heap) (XA X n sz)) 1 6 (XA X n sz)
abbrev QP (X : XT) (sh : Nat → Sh) (n : Nat) (s : State) (args : Array Value) (below : List Frame) (o : Option Int × S2) : State → Prop := vx_MQ below (va_Qi (fun r (_ : Unit) => ∃ v, o.1 = some v ∧ r = iz v) (Post X sh n o.2) (XA X n s.heap.size)) (vx_X (fun _ : Unit => o.1 = none) (fun E _ t => E = xnX ∧ va_P X.1 vwCl (XW X sh n o.2) t.heap) (XA X n s.heap.size)) args s 1 6 (XA X n s.heap.size)
def rP (v : Int) (S : S2) : Option (Option Int × S2) := some (some v, S)
def rT (S : S2) : Option (Option Int × S2) := some (none, S)
section PEAK
variable {p : Program} {l : Launch} {e : Env} {R : Room} {s : State} {m : MethodId} {args : Array Value} {below : List Frame} {meth : Method} {c : Code} {H : Heap} {locs : List Loc}
variable {cc : ByteArray} {pc nL : Nat} {own : String} {ret0 : Option FieldType} {ls : Array Slot} {rest : List Value} {X : XT} {sh : Nat → Sh} {n : Nat} {Z : ZT} {S : S2}
theorem r_retP {o : Option Int × S2} (C : CX p s m args meth c cc nL own (some .int) X n Z) (hw : WH X sh n s S H locs) {v : Int} (hdg : decode cc pc = .ok (.ireturn, 1)) (hf : rP v S = some o) : W p l e R s m args below meth c H locs 0 0 (QP X sh n s args below o) (F0 m pc ls [.int (iz v)]) := by
  cases hf
  refine W.widen (k := 1) (n := 6) (Nat.zero_le _) (Nat.zero_le _) (vx_ret ?_)
  exact W.iret (v := iz v) C.1.1 C.1.2.1 C.2.2.1 (fun t ht hW => ⟨⟨iz v, (), rfl, ⟨v, rfl, rfl⟩, by rw [Post, ht]; exact hw.1⟩, hw.2.F ht⟩) hw.2.2.2 hdg C.2.1
theorem r_throwP {o : Option Int × S2} {text : String} {ik is ic sa : Nat} (hl : l.stackTraces = false) (C : CX p s m args meth c cc nL own ret0 X n Z) (hw : WH X sh n s S H locs) (hzx : ZX (XA X n s.heap.size) s s.heap) (htab : ∀ x ∈ c.exceptionTable.toList, False) (hk : Cond.classLink own ik xnX ∈ UW) (hini : Cond.initialized xnX ∈ UW) (hstr : vk_R own is text sa s)
    (hat : ∀ w ∈ (xtA own ic).filter vx_no, w.before args s = true) (hgood : ∀ w ∈ Cond.classLink own ik xnX :: Cond.initialized xnX :: (xtA own ic).filter vx_no, vx_ot w = true) (hsize : ls.size = nL)
    (d0 : decode cc pc = .ok (.new ik, 3)) (d3 : decode cc (pc + 3) = .ok (.dup, 1)) (d4 : decode cc (pc + 4) = .ok (.ldc is, 2)) (d6 : decode cc (pc + 6) = .ok (.invokespecial ic, 3)) (d9 : decode cc (pc + 9) = .ok (.athrow, 1))
    (hRf : 5 < R.frames) (hRl : 82 ≤ R.locals) (hRc : 1 ≤ R.cells) (hRs : 6 ≤ R.slots) (hf : rT S = some o) : W p l e R s m args below meth c H locs 0 0 (QP X sh n s args below o) (F0 m pc ls []) := by
  cases hf
  have hts := C.1.2.2.2.2
  refine xt_throw C.1.1 C.1.2.1 hl C.1.2.2.2.1 (hts _ hk) (hts _ hini) hstr hat hgood hzx.1 hzx.2.1 hw.2 (by rw [hsize]; exact C.1.2.2.1.symm) d0 d3 d4 d6 d9 (fun x hx => (htab x hx).elim) hRf (by simpa using hRl) (by omega) (by omega) C.2.1 (fun t ht hsz hq => ?_) hw.2.2.2 (by omega) (by omega)
  refine ⟨(), rfl, ⟨rfl, hw.1.kept (fun k x hx => hq _ (hw.1 k x hx).lt)⟩, Nat.le_trans hw.2.1 hsz, fun q h1 h2 => (hq q (Nat.lt_of_lt_of_le h1 hw.2.1)).trans (hw.2.2.1 q h1 h2)⟩
theorem met_P {y : MethodName} {maxL : Nat} {ret : Option FieldType} {rm : Room} {av : List Value} {o : Option Int × S2} (hy : plainName y.cls = true) (ho : y.cls = own) (hinj : XInj X n) (hZ : ZOK Z) (hav : (lg_sl av).length ≤ maxL)
    (body : ∀ (p : Program) (e : Env) (s : State) (m : MethodId) (args : Array Value) (below : List Frame) (meth : Method) (c : Code), CX p s m args meth c cc maxL own ret X n Z → ZX (XA X n s.heap.size) s s.heap → (∀ x ∈ c.exceptionTable.toList, False) → ∀ (ls : Array Slot) (H : Heap) (locs : List Loc), WH X sh n s S H locs → lv_has ls maxL (lv_args 0 av) → W p l e rm s m args below meth c H locs 0 0 (QP X sh n s args below o) (F0 m 0 ls [])) : MP l X sh n Z y cc maxL ret rm av S o := by
  intro sz
  refine vx_ofW (cc := cc) (maxL := maxL) (ret := ret) hy rfl ?_
  intro p e s m args below meth c s₁ B hml htab hv
  obtain ⟨rfl, ⟨hsz, hP, hK, hz⟩, hzx⟩ := hv
  have hts := atoms_spec (ws := .code y cc maxL ret :: UW) B.pre
  have hown : s.vm.findClass own = some m.cls := by rw [← ho]; exact findClass_of_methodNamed B.named
  subst hsz
  have hl := lv_entry av (n := maxL) hav
  rw [lg_entry_eq]
  generalize (lg_sl av ++ List.replicate (maxL - (lg_sl av).length) Slot.unset).toArray = ls at hl ⊢
  exact body p e s m _ below meth c ⟨⟨B.exec, B.bytes, hml, hown, fun w h => hts w (List.mem_cons_of_mem _ h)⟩, B.notSynchronized, B.returns, hinj, hK, hz, hZ⟩ hzx htab ls s.heap [] ⟨hP, va_S.rf⟩ hl
end PEAK
def f_X10_peak (N : Nat) (S : S2) (a1 : Int) (a2 : Int) : Option (Option Int × S2) := cI a1 0 (if a1 < 0 then rT S else gI S 6 0 fun v9 => cI a1 v9 (if v9 ≤ a1 then rT S else cI a2 0 (if a2 < 0 then rT S else cI a2 8 (if a2 ≤ 8 then cI a2 0 (if a2 = 0 then bI (f_X5_placeOf N S 6 a1) fun v89 S89 => rP v89 S89 else (if a2 = 1 then bI (f_X5_heightOf N S 6 a1) fun v98 S98 => rP v98 S98 else (if a2 = 2 then bI (f_X5_valleyOf N S 6 a1) fun v107 S107 => rP v107 S107 else (if a2 = 3 then bI (f_X5_deathOf N S 6 a1) fun v116 S116 => rP v116 S116 else (if a2 = 4 then bI (f_X5_persistenceOf N S 6 a1) fun v125 S125 => rP v125 S125 else (if a2 = 5 then bI (f_X5_parentOf N S 6 a1) fun v134 S134 => rP v134 S134 else (if a2 = 6 then bI (f_X10_isKept N S a1) fun v140 S140 => cI v140 0 (if v140 = 0 then rP 0 S140 else rP 1 S140) else (if a2 = 7 then bI (f_X5_generationOf N S 6 a1) fun v157 S157 => rP v157 S157 else bI (f_X3_match N S 20 6 0) fun v170 S170 => bI (f_X3_takenBy N S170 20 a1) fun v179 S179 => rP v179 S179)))))))) else rT S))))
abbrev rmX10_peak : Room := { frames := 6, cells := 1, slots := 6, locals := 82 }
theorem hd_X10_peak : yX10_peak.cls ≠ "java/lang/invoke/MethodHandle" ∧ yX10_peak.cls ≠ "java/lang/invoke/VarHandle" ∧ (parseMethodDescriptor yX10_peak.desc).map (fun d => d.parameters.length) = some 2 := by decide +kernel
set_option maxRecDepth 100000 in
set_option maxHeartbeats 4000000 in
theorem c_X10_peak (l : Launch) (hlt : l.stackTraces = false) (X : XT) (hinj : XInj X nC) (hZ : ZOK (Zc X)) (N : Nat) (S : S2) (a1 : Int) (a2 : Int) (out : Option Int × S2) (hf : f_X10_peak N S a1 a2 = some out) : MP l X shC nC (Zc X) yX10_peak cX10_peak 3 (some .int) rmX10_peak [.ref (X.2.2 0), .int (iz a1), .int (iz a2)] S out := by
  refine met_P (own := RX10) (by decide) rfl hinj hZ (Nat.le_of_ble_eq_true rfl) (fun p e s m args below meth c C hzx htab ls H locs hw hl => ?_)
  unfold f_X10_peak at hf
  have hl : lv_has ls 3 [(0, .ref (X.2.2 0)), (1, .int (iz a1)), (2, .int (iz a2))] := hl
  refine lv_iload_n C.1.1 C.1.2.1 dX10_peak_0 rfl (lv_at hl 1 rfl) ?_
  refine r_if_lt C (tgt := 25) dX10_peak_1 (by decide) hf (fun hf => ?_) (fun hf => ?_)
  · exact r_throwP hlt C hw hzx htab tw5_64 tw1_22 (zc_RX10_179 (zcC C)) (xt_hat C.1.2.2.2.2 hzx.2.2) xt_good hl.1 dX10_peak_25 dX10_peak_28 dX10_peak_29 dX10_peak_31 dX10_peak_34 (Nat.le_of_ble_eq_true rfl) (Nat.le_of_ble_eq_true rfl) (Nat.le_of_ble_eq_true rfl) (Nat.le_of_ble_eq_true rfl) hf
  · refine lv_iload_n C.1.1 C.1.2.1 dX10_peak_4 rfl (lv_at hl 1 rfl) ?_
    refine lv_aload_n C.1.1 C.1.2.1 dX10_peak_5 rfl (lv_at hl 0 rfl) ?_
    refine r_getR (k := 3) C hw shC_0 ltC_0 cO10 rfl (by decide) tw2_49 rfl dX10_peak_6 ?_
    refine r_getI (k := 0) C hw (is5_s is5_at6) (is5_l is5_at6) cO5 rfl (by decide) tw1_112 rfl dX10_peak_9 hf (fun v9 hf => ?_)
    refine r_icmp_ge C (tgt := 25) dX10_peak_12 (by decide) hf (fun hf => ?_) (fun hf => ?_)
    · exact r_throwP hlt C hw hzx htab tw5_64 tw1_22 (zc_RX10_179 (zcC C)) (xt_hat C.1.2.2.2.2 hzx.2.2) xt_good hl.1 dX10_peak_25 dX10_peak_28 dX10_peak_29 dX10_peak_31 dX10_peak_34 (Nat.le_of_ble_eq_true rfl) (Nat.le_of_ble_eq_true rfl) (Nat.le_of_ble_eq_true rfl) (Nat.le_of_ble_eq_true rfl) hf
    · refine lv_iload_n C.1.1 C.1.2.1 dX10_peak_15 rfl (lv_at hl 2 rfl) ?_
      refine r_if_lt C (tgt := 25) dX10_peak_16 (by decide) hf (fun hf => ?_) (fun hf => ?_)
      · exact r_throwP hlt C hw hzx htab tw5_64 tw1_22 (zc_RX10_179 (zcC C)) (xt_hat C.1.2.2.2.2 hzx.2.2) xt_good hl.1 dX10_peak_25 dX10_peak_28 dX10_peak_29 dX10_peak_31 dX10_peak_34 (Nat.le_of_ble_eq_true rfl) (Nat.le_of_ble_eq_true rfl) (Nat.le_of_ble_eq_true rfl) (Nat.le_of_ble_eq_true rfl) hf
      · refine lv_iload_n C.1.1 C.1.2.1 dX10_peak_19 rfl (lv_at hl 2 rfl) ?_
        refine r_bipush (v := 8) C dX10_peak_20 (by decide) ?_
        refine r_icmp_le C (tgt := 35) dX10_peak_22 (by decide) hf (fun hf => ?_) (fun hf => ?_)
        · refine lv_iload_n C.1.1 C.1.2.1 dX10_peak_35 rfl (lv_at hl 2 rfl) ?_
          obtain ⟨⟨hsw, -⟩, hf⟩ := cI_some hf
          rcases ite_some hf with ⟨hc36_0, hf⟩ | ⟨hc36_0, hf⟩
          · refine lv_tableIn (tgt := 84) C.1.1 C.1.2.1 dX10_peak_36 (by rw [hc36_0]; decide) (by rw [hc36_0]; decide) (by rw [hc36_0]; rfl) (by decide) ?_
            refine lv_aload_n C.1.1 C.1.2.1 dX10_peak_84 rfl (lv_at hl 0 rfl) ?_
            refine r_getR (k := 3) C hw shC_0 ltC_0 cO10 rfl (by decide) tw2_49 rfl dX10_peak_85 ?_
            refine lv_iload_n C.1.1 C.1.2.1 dX10_peak_88 rfl (lv_at hl 1 rfl) ?_
            refine r_callI (As := [.int (iz a1)]) (rest := []) (rm := rmX5_placeOf) C hw (is5_s is5_at6) (is5_l is5_at6) cO5 tw4_186 tw3_167 tw3_168 tw1_5 tw3_169 hd_X5_placeOf rfl ⟨⟨rfl, rfl⟩, Nat.le_of_ble_eq_true rfl, Nat.le_of_ble_eq_true rfl⟩ hl.1 rfl (Nat.le_of_ble_eq_true rfl) dX10_peak_89 hf (fun o ho => c_X5_placeOf l X hinj hZ N S 6 a1 is5_at6 o ho) (fun v89 S89 H locs hf hw => ?_)
            exact r_retP C hw dX10_peak_92 hf
          · skip
            rcases ite_some hf with ⟨hc36_1, hf⟩ | ⟨hc36_1, hf⟩
            · refine lv_tableIn (tgt := 93) C.1.1 C.1.2.1 dX10_peak_36 (by rw [hc36_1]; decide) (by rw [hc36_1]; decide) (by rw [hc36_1]; rfl) (by decide) ?_
              refine lv_aload_n C.1.1 C.1.2.1 dX10_peak_93 rfl (lv_at hl 0 rfl) ?_
              refine r_getR (k := 3) C hw shC_0 ltC_0 cO10 rfl (by decide) tw2_49 rfl dX10_peak_94 ?_
              refine lv_iload_n C.1.1 C.1.2.1 dX10_peak_97 rfl (lv_at hl 1 rfl) ?_
              refine r_callI (As := [.int (iz a1)]) (rest := []) (rm := rmX5_heightOf) C hw (is5_s is5_at6) (is5_l is5_at6) cO5 tw4_191 tw3_105 tw3_106 tw1_5 tw3_107 hd_X5_heightOf rfl ⟨⟨rfl, rfl⟩, Nat.le_of_ble_eq_true rfl, Nat.le_of_ble_eq_true rfl⟩ hl.1 rfl (Nat.le_of_ble_eq_true rfl) dX10_peak_98 hf (fun o ho => c_X5_heightOf l X hinj hZ N S 6 a1 is5_at6 o ho) (fun v98 S98 H locs hf hw => ?_)
              exact r_retP C hw dX10_peak_101 hf
            · skip
              rcases ite_some hf with ⟨hc36_2, hf⟩ | ⟨hc36_2, hf⟩
              · refine lv_tableIn (tgt := 102) C.1.1 C.1.2.1 dX10_peak_36 (by rw [hc36_2]; decide) (by rw [hc36_2]; decide) (by rw [hc36_2]; rfl) (by decide) ?_
                refine lv_aload_n C.1.1 C.1.2.1 dX10_peak_102 rfl (lv_at hl 0 rfl) ?_
                refine r_getR (k := 3) C hw shC_0 ltC_0 cO10 rfl (by decide) tw2_49 rfl dX10_peak_103 ?_
                refine lv_iload_n C.1.1 C.1.2.1 dX10_peak_106 rfl (lv_at hl 1 rfl) ?_
                refine r_callI (As := [.int (iz a1)]) (rest := []) (rm := rmX5_valleyOf) C hw (is5_s is5_at6) (is5_l is5_at6) cO5 tw5_129 tw5_130 tw5_131 tw1_5 tw5_132 hd_X5_valleyOf rfl ⟨⟨rfl, rfl⟩, Nat.le_of_ble_eq_true rfl, Nat.le_of_ble_eq_true rfl⟩ hl.1 rfl (Nat.le_of_ble_eq_true rfl) dX10_peak_107 hf (fun o ho => c_X5_valleyOf l X hinj hZ N S 6 a1 is5_at6 o ho) (fun v107 S107 H locs hf hw => ?_)
                exact r_retP C hw dX10_peak_110 hf
              · skip
                rcases ite_some hf with ⟨hc36_3, hf⟩ | ⟨hc36_3, hf⟩
                · refine lv_tableIn (tgt := 111) C.1.1 C.1.2.1 dX10_peak_36 (by rw [hc36_3]; decide) (by rw [hc36_3]; decide) (by rw [hc36_3]; rfl) (by decide) ?_
                  refine lv_aload_n C.1.1 C.1.2.1 dX10_peak_111 rfl (lv_at hl 0 rfl) ?_
                  refine r_getR (k := 3) C hw shC_0 ltC_0 cO10 rfl (by decide) tw2_49 rfl dX10_peak_112 ?_
                  refine lv_iload_n C.1.1 C.1.2.1 dX10_peak_115 rfl (lv_at hl 1 rfl) ?_
                  refine r_callI (As := [.int (iz a1)]) (rest := []) (rm := rmX5_deathOf) C hw (is5_s is5_at6) (is5_l is5_at6) cO5 tw5_133 tw3_109 tw3_110 tw1_5 tw3_111 hd_X5_deathOf rfl ⟨⟨rfl, rfl⟩, Nat.le_of_ble_eq_true rfl, Nat.le_of_ble_eq_true rfl⟩ hl.1 rfl (Nat.le_of_ble_eq_true rfl) dX10_peak_116 hf (fun o ho => c_X5_deathOf l X hinj hZ N S 6 a1 is5_at6 o ho) (fun v116 S116 H locs hf hw => ?_)
                  exact r_retP C hw dX10_peak_119 hf
                · skip
                  rcases ite_some hf with ⟨hc36_4, hf⟩ | ⟨hc36_4, hf⟩
                  · refine lv_tableIn (tgt := 120) C.1.1 C.1.2.1 dX10_peak_36 (by rw [hc36_4]; decide) (by rw [hc36_4]; decide) (by rw [hc36_4]; rfl) (by decide) ?_
                    refine lv_aload_n C.1.1 C.1.2.1 dX10_peak_120 rfl (lv_at hl 0 rfl) ?_
                    refine r_getR (k := 3) C hw shC_0 ltC_0 cO10 rfl (by decide) tw2_49 rfl dX10_peak_121 ?_
                    refine lv_iload_n C.1.1 C.1.2.1 dX10_peak_124 rfl (lv_at hl 1 rfl) ?_
                    refine r_callI (As := [.int (iz a1)]) (rest := []) (rm := rmX5_persistenceOf) C hw (is5_s is5_at6) (is5_l is5_at6) cO5 tw4_154 tw3_101 tw3_102 tw1_5 tw3_103 hd_X5_persistenceOf rfl ⟨⟨rfl, rfl⟩, Nat.le_of_ble_eq_true rfl, Nat.le_of_ble_eq_true rfl⟩ hl.1 rfl (Nat.le_of_ble_eq_true rfl) dX10_peak_125 hf (fun o ho => c_X5_persistenceOf l X hinj hZ N S 6 a1 is5_at6 o ho) (fun v125 S125 H locs hf hw => ?_)
                    exact r_retP C hw dX10_peak_128 hf
                  · skip
                    rcases ite_some hf with ⟨hc36_5, hf⟩ | ⟨hc36_5, hf⟩
                    · refine lv_tableIn (tgt := 129) C.1.1 C.1.2.1 dX10_peak_36 (by rw [hc36_5]; decide) (by rw [hc36_5]; decide) (by rw [hc36_5]; rfl) (by decide) ?_
                      refine lv_aload_n C.1.1 C.1.2.1 dX10_peak_129 rfl (lv_at hl 0 rfl) ?_
                      refine r_getR (k := 3) C hw shC_0 ltC_0 cO10 rfl (by decide) tw2_49 rfl dX10_peak_130 ?_
                      refine lv_iload_n C.1.1 C.1.2.1 dX10_peak_133 rfl (lv_at hl 1 rfl) ?_
                      refine r_callI (As := [.int (iz a1)]) (rest := []) (rm := rmX5_parentOf) C hw (is5_s is5_at6) (is5_l is5_at6) cO5 tw5_134 tw5_135 tw5_136 tw1_5 tw5_137 hd_X5_parentOf rfl ⟨⟨rfl, rfl⟩, Nat.le_of_ble_eq_true rfl, Nat.le_of_ble_eq_true rfl⟩ hl.1 rfl (Nat.le_of_ble_eq_true rfl) dX10_peak_134 hf (fun o ho => c_X5_parentOf l X hinj hZ N S 6 a1 is5_at6 o ho) (fun v134 S134 H locs hf hw => ?_)
                      exact r_retP C hw dX10_peak_137 hf
                    · skip
                      rcases ite_some hf with ⟨hc36_6, hf⟩ | ⟨hc36_6, hf⟩
                      · refine lv_tableIn (tgt := 138) C.1.1 C.1.2.1 dX10_peak_36 (by rw [hc36_6]; decide) (by rw [hc36_6]; decide) (by rw [hc36_6]; rfl) (by decide) ?_
                        refine lv_aload_n C.1.1 C.1.2.1 dX10_peak_138 rfl (lv_at hl 0 rfl) ?_
                        refine lv_iload_n C.1.1 C.1.2.1 dX10_peak_139 rfl (lv_at hl 1 rfl) ?_
                        refine r_callI (As := [.int (iz a1)]) (rest := []) (rm := rmX10_isKept) C hw shC_0 ltC_0 cO10 tw3_158 tw3_160 tp_23 tw1_1 tw3_161 hd_X10_isKept rfl ⟨⟨rfl, rfl⟩, Nat.le_of_ble_eq_true rfl, Nat.le_of_ble_eq_true rfl⟩ hl.1 rfl (Nat.le_of_ble_eq_true rfl) dX10_peak_140 hf (fun o ho => c_X10_isKept l X hinj hZ N S a1 o ho) (fun v140 S140 H locs hf hw => ?_)
                        refine r_if_eq C (tgt := 150) dX10_peak_143 (by decide) hf (fun hf => ?_) (fun hf => ?_)
                        · refine r_iconst (v := 0) C dX10_peak_150 ?_
                          exact r_retP C hw dX10_peak_151 hf
                        · refine r_iconst (v := 1) C dX10_peak_146 ?_
                          refine lv_goto (tgt := 151) C.1.1 C.1.2.1 dX10_peak_147 (by decide) ?_
                          exact r_retP C hw dX10_peak_151 hf
                      · skip
                        rcases ite_some hf with ⟨hc36_7, hf⟩ | ⟨hc36_7, hf⟩
                        · refine lv_tableIn (tgt := 152) C.1.1 C.1.2.1 dX10_peak_36 (by rw [hc36_7]; decide) (by rw [hc36_7]; decide) (by rw [hc36_7]; rfl) (by decide) ?_
                          refine lv_aload_n C.1.1 C.1.2.1 dX10_peak_152 rfl (lv_at hl 0 rfl) ?_
                          refine r_getR (k := 3) C hw shC_0 ltC_0 cO10 rfl (by decide) tw2_49 rfl dX10_peak_153 ?_
                          refine lv_iload_n C.1.1 C.1.2.1 dX10_peak_156 rfl (lv_at hl 1 rfl) ?_
                          refine r_callI (As := [.int (iz a1)]) (rest := []) (rm := rmX5_generationOf) C hw (is5_s is5_at6) (is5_l is5_at6) cO5 tw4_196 tw4_197 tw4_198 tw1_5 tw4_199 hd_X5_generationOf rfl ⟨⟨rfl, rfl⟩, Nat.le_of_ble_eq_true rfl, Nat.le_of_ble_eq_true rfl⟩ hl.1 rfl (Nat.le_of_ble_eq_true rfl) dX10_peak_157 hf (fun o ho => c_X5_generationOf l X hinj hZ N S 6 a1 is5_at6 o ho) (fun v157 S157 H locs hf hw => ?_)
                          exact r_retP C hw dX10_peak_160 hf
                        · skip
                          refine lv_tableOut (tgt := 161) C.1.1 C.1.2.1 dX10_peak_36 (by rw [sw_in hsw]; omega) (by decide) ?_
                          refine lv_aload_n C.1.1 C.1.2.1 dX10_peak_161 rfl (lv_at hl 0 rfl) ?_
                          refine r_getR (k := 4) C hw shC_0 ltC_0 cO10 rfl (by decide) tw2_50 rfl dX10_peak_162 ?_
                          refine lv_aload_n C.1.1 C.1.2.1 dX10_peak_165 rfl (lv_at hl 0 rfl) ?_
                          refine r_getR (k := 3) C hw shC_0 ltC_0 cO10 rfl (by decide) tw2_49 rfl dX10_peak_166 ?_
                          refine r_iconst (v := 0) C dX10_peak_169 ?_
                          refine r_callI (As := [.ref (X.2.2 6), .int (iz 0)]) (rest := []) (rm := rmX3_match) C hw (is3_s is3_at20) (is3_l is3_at20) cO3 tw3_214 tw3_215 tw3_216 tw1_6 tw3_217 hd_X3_match rfl ⟨⟨rfl, rfl⟩, Nat.le_of_ble_eq_true rfl, Nat.le_of_ble_eq_true rfl⟩ hl.1 rfl (Nat.le_of_ble_eq_true rfl) dX10_peak_170 hf (fun o ho => c_X3_match l X hinj hZ N S 20 6 0 is3_at20 is5_at6 o ho) (fun v170 S170 H locs hf hw => ?_)
                          refine lv_pop C.1.1 C.1.2.1 dX10_peak_173 rfl ?_
                          refine lv_aload_n C.1.1 C.1.2.1 dX10_peak_174 rfl (lv_at hl 0 rfl) ?_
                          refine r_getR (k := 4) C hw shC_0 ltC_0 cO10 rfl (by decide) tw2_50 rfl dX10_peak_175 ?_
                          refine lv_iload_n C.1.1 C.1.2.1 dX10_peak_178 rfl (lv_at hl 1 rfl) ?_
                          refine r_callI (As := [.int (iz a1)]) (rest := []) (rm := rmX3_takenBy) C hw (is3_s is3_at20) (is3_l is3_at20) cO3 tw4_208 tw4_209 tw4_210 tw1_6 tw4_211 hd_X3_takenBy rfl ⟨⟨rfl, rfl⟩, Nat.le_of_ble_eq_true rfl, Nat.le_of_ble_eq_true rfl⟩ hl.1 rfl (Nat.le_of_ble_eq_true rfl) dX10_peak_179 hf (fun o ho => c_X3_takenBy l X hinj hZ N S170 20 a1 is3_at20 o ho) (fun v179 S179 H locs hf hw => ?_)
                          exact r_retP C hw dX10_peak_182 hf
        · exact r_throwP hlt C hw hzx htab tw5_64 tw1_22 (zc_RX10_179 (zcC C)) (xt_hat C.1.2.2.2.2 hzx.2.2) xt_good hl.1 dX10_peak_25 dX10_peak_28 dX10_peak_29 dX10_peak_31 dX10_peak_34 (Nat.le_of_ble_eq_true rfl) (Nat.le_of_ble_eq_true rfl) (Nat.le_of_ble_eq_true rfl) (Nat.le_of_ble_eq_true rfl) hf
