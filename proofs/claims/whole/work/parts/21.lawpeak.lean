/-! the law's helper: it calls TracePeaks.peak, catches what that throws, lays the answer into a row of one long -/
theorem met_ofWH {l : Launch} {y : MethodName} {ws ws' : List Cond} {rm : Room} {Pc : Array Value → State → Prop} {Qc : Array Value → State → Outcome → State → Prop} {mc ms : Nat} {free : Addr → Prop} {cc : ByteArray} {maxL : Nat} {ret : Option FieldType} {hh : List (Nat × Nat × Nat × Nat)}
    (hy : plainName y.cls = true) (hw : ws = Cond.codeWith y cc maxL ret hh :: ws')
    (body : ∀ p e s m args below meth c s₁, BodyLoose p l y (headSpec ws rm) cc maxL ret e s m args below meth c s₁ → c.maxLocals = maxL → Pc args s →
      W p l e (headSpec ws rm).room s m args below meth c s.heap [] 0 0 (MQ below Qc args s mc ms free) (entryFrame m args maxL)) : Met l y ws rm Pc Qc mc ms free := by
  refine MetFree.of_bodyS (code := cc) (maxLocals := maxL) (ret := ret) hy ?_ ?_
  · intro args s m h hn
    obtain ⟨m9, meth, c, hn9, h1, h2, h3, h4, -, h5, h6, -⟩ := Cond.codeWith_spec (atoms_spec (ws := ws) h _ (by rw [hw]; exact List.mem_cons_self))
    cases hn.symm.trans hn9
    exact ⟨meth, c, h1, h2, h3, h4, h5, h6⟩
  · intro p e s m args below meth c s₁ B hml hP _
    have hh0 : s₁.heap = s.heap := by rw [B.state]; rfl
    obtain ⟨t, a1, o, b1, b2, b3⟩ := body p e s m args below meth c s₁ B hml hP s₁ hh0 (Stand.of_body B)
    exact ⟨t, o, a1, b1, b2, ⟨b3.1, b3.2⟩⟩
theorem preP_blind {X : XT} {sh : Nat → Sh} {n : Nat} {Z : ZT} {S : S2} {av : List Value} {sz : Nat} (hZ : ZOK Z) : FrameBlind (va_Pc av (fun U => Pre X sh n Z S sz U ∧ ZX (XA X n sz) U U.heap)) := by
  intro a U g mk q
  obtain ⟨q0, q1, q2⟩ := q
  have h := pre_blind (X := X) (sh := sh) (n := n) (S := S) (av := av) (sz := sz) hZ a U g mk ⟨q0, q1⟩
  exact ⟨q0, h.2, zx_call g mk a q2⟩
theorem preP_of {p : Program} {s : State} {m : MethodId} {args : Array Value} {meth : Method} {c : Code} {H : Heap} {locs : List Loc} {cc : ByteArray} {nL : Nat} {own : String} {ret0 : Option FieldType} {X : XT} {sh : Nat → Sh} {n : Nat} {Z : ZT} {S : S2} (C : CX p s m args meth c cc nL own ret0 X n Z) (hw : WH X sh n s S H locs) (hzx : ZX (XA X n s.heap.size) s s.heap) {av : List Value} : ∀ U : State, U.heap = H → s.WarmedH U.vm → va_Pc av (fun U => Pre X sh n Z S H.size U ∧ ZX (XA X n H.size) U U.heap) av.toArray U := by
  intro U hU hW
  obtain ⟨q0, q1⟩ := pre_of C hw (av := av) U hU hW
  refine ⟨q0, q1, ?_⟩
  rw [hU]
  exact zx_narrow (XA_sub hw.2.1) (zx_warm hW (zx_kept (fun a h1 h2 => hw.2.2.1 a h1 h2) hzx))
theorem P_left {D : va_G} {cl : List vw_C} {w1 w2 : va_W} {H : Heap} (h : va_P D cl (w1 ++ w2) H) : va_P D cl w1 H := fun k q hk => h k q (by rw [List.getElem?_append_left (List.getElem?_eq_some_iff.mp hk).1]; exact hk)
theorem P_right {D : va_G} {cl : List vw_C} {w1 w2 : va_W} {H : Heap} (h : va_P D cl (w1 ++ w2) H) : va_P D cl w2 H := fun k q hk => h (w1.length + k) q (by rw [List.getElem?_append_right (by omega), Nat.add_sub_cancel_left]; exact hk)
theorem D_app1 {A : Nat → Prop} {w : va_W} {a : Nat} {e : va_E} (hD : va_D A w) (ha : A a) (hn : ∀ (k : Nat) (q : Nat × va_E), w[k]? = some q → q.1 ≠ a) : va_D A (w ++ [(a, e)]) := by
  have key : ∀ (k : Nat) (q : Nat × va_E), (w ++ [(a, e)])[k]? = some q → (w[k]? = some q ∧ k < w.length) ∨ (k = w.length ∧ q.1 = a) := by
    intro k q hk
    by_cases h : k < w.length
    · rw [List.getElem?_append_left h] at hk
      exact Or.inl ⟨hk, h⟩
    · rw [List.getElem?_append_right (by omega)] at hk
      have hz : k - w.length < 1 := (List.getElem?_eq_some_iff.mp hk).1
      rw [show k - w.length = 0 by omega] at hk
      cases hk
      exact Or.inr ⟨by omega, rfl⟩
  refine ⟨fun i j p q hi hj e => ?_, fun k q hk => ?_⟩
  · rcases key i p hi with ⟨h1, h2⟩ | ⟨h1, h2⟩ <;> rcases key j q hj with ⟨h3, h4⟩ | ⟨h3, h4⟩
    · exact hD.1 i j p q h1 h3 e
    · exact absurd (e.trans h4) (hn i p h1)
    · exact absurd (e.symm.trans h2) (hn j q h3)
    · omega
  · rcases key k q hk with ⟨h1, h2⟩ | ⟨h1, h2⟩
    · exact hD.2 k q h1
    · rw [h2]; exact ha
theorem S_mono {A B : Nat → Prop} {H0 H : Heap} {locs : List Loc} (h : va_S A H0 H locs) (hAB : ∀ q, A q → B q) : va_S B H0 H locs := ⟨h.1, fun q h1 h2 => h.2.1 q h1 (fun z => h2 (hAB q z)), fun x hx => hAB _ (h.2.2 x hx)⟩
abbrev rmL_peak : Room := { frames := 7, cells := 1, slots := 6, locals := 104 }
/-- the one cell of the law's own: a row of one long -/
abbrev oW (X : XT) (ao : Nat) (fo : Nat → Int64) : va_W := [(ao, .inl (X.2.1 2, 1, .inr (.inl fo)))]
def PreL (X : XT) (S : S2) (ao : Nat) (fo : Nat → Int64) (sz : Nat) : State → Prop := fun U => (Pre X shC nC (Zc X) S sz U ∧ ZX (XA X nC sz) U U.heap) ∧ va_P X.1 vwCl (oW X ao fo) U.heap
def AL (X : XT) (ao sz : Nat) : Nat → Prop := fun q => XA X nC sz q ∨ q = ao
set_option maxRecDepth 100000 in
set_option maxHeartbeats 4000000 in
theorem c_L_peak (l : Launch) (hlt : l.stackTraces = false) (X : XT) (hinj : XInj X nC) (hZ : ZOK (Zc X)) (N : Nat) (S : S2) (a b : Int) (o : Option Int × S2) (hf : f_X10_peak N S a b = some o) (ao : Nat) (hao : ∀ i, i < nC → X.2.2 i ≠ ao) (fo : Nat → Int64) (sz : Nat) :
    Met l yL_peak (.codeWith yL_peak cL_peak 5 (some .int) [(0, 10, 13, 13)] :: UW) rmL_peak (va_Pc [.ref (X.2.2 0), .int (iz a), .int (iz b), .ref ao] (PreL X S ao fo sz)) (va_Qi (fun r (_ : Unit) => r = iz (if o.1.isSome then 0 else 1)) (fun _ t => va_P X.1 vwCl (XW X shC nC o.2) t.heap ∧ ∃ fo' : Nat → Int64, va_P X.1 vwCl (oW X ao fo') t.heap ∧ ∀ v, o.1 = some v → fo' 0 = (iz v).toInt64) (AL X ao sz)) 1 6 (AL X ao sz) := by
  refine met_ofWH (cc := cL_peak) (maxL := 5) (ret := some .int) (by decide) rfl ?_
  intro p e s m args below meth c s₁ B hml hv
  obtain ⟨rfl, ⟨⟨hsz, hP, hK, hz⟩, hzx⟩, hPo⟩ := hv
  have hts := atoms_spec (ws := .codeWith yL_peak cL_peak 5 (some .int) [(0, 10, 13, 13)] :: UW) B.pre
  have hown : s.vm.findClass RL = some m.cls := findClass_of_methodNamed B.named
  have htab : c.exceptionTable.toList = tableOf [(0, 10, 13, 13)] := vx_table (x := yL_peak) B (hts _ List.mem_cons_self)
  subst hsz
  have hl := lv_entry [.ref (X.2.2 0), .int (iz a), .int (iz b), .ref ao] (n := 5) (Nat.le_of_ble_eq_true rfl)
  rw [lg_entry_eq]
  generalize (lg_sl [.ref (X.2.2 0), .int (iz a), .int (iz b), .ref ao] ++ List.replicate (5 - (lg_sl [.ref (X.2.2 0), .int (iz a), .int (iz b), .ref ao]).length) Slot.unset).toArray = ls at hl ⊢
  have hl : lv_has ls 5 [(0, .ref (X.2.2 0)), (1, .int (iz a)), (2, .int (iz b)), (3, .ref ao)] := hl
  have C : CX p s m #[.ref (X.2.2 0), .int (iz a), .int (iz b), .ref ao] meth c cL_peak 5 RL (some .int) X nC (Zc X) := ⟨⟨B.exec, B.bytes, hml, hown, fun w h => hts w (List.mem_cons_of_mem _ h)⟩, B.notSynchronized, B.returns, hinj, hK, hz, hZ⟩
  have hw : WH X shC nC s S s.heap [] := ⟨hP, va_S.rf⟩
  have htsU : ∀ w ∈ UW, w.before #[.ref (X.2.2 0), .int (iz a), .int (iz b), .ref ao] s = true := C.1.2.2.2.2
  have hS : va_S (AL X ao s.heap.size) s.heap s.heap [] := va_S.rf
  have hlo : ao < s.heap.size := (hPo 0 _ rfl).lt
  have hkeepo : ∀ {H1 : Heap}, (∀ q : Nat, q < s.heap.size → ¬ XA X nC s.heap.size q → H1[q]? = s.heap[q]?) → va_P X.1 vwCl (oW X ao fo) H1 := fun {H1} hq => hPo.kept (fun k x hx => by
    have hz : k < 1 := (List.getElem?_eq_some_iff.mp hx).1
    rw [show k = 0 by omega] at hx
    cases hx
    refine hq ao hlo (fun h => ?_)
    rcases h with ⟨i, hi, e⟩ | h
    · exact hao i hi e.symm
    · omega)
  refine lv_aload_n C.1.1 C.1.2.1 dL_peak_0 rfl (lv_at hl 3 rfl) ?_
  refine r_iconst (v := 0) C dL_peak_1 ?_
  refine lv_aload_n C.1.1 C.1.2.1 dL_peak_2 rfl (lv_at hl 0 rfl) ?_
  refine lv_iload_n C.1.1 C.1.2.1 dL_peak_3 rfl (lv_at hl 1 rfl) ?_
  refine lv_iload_n C.1.1 C.1.2.1 dL_peak_4 rfl (lv_at hl 2 rfl) ?_
  refine vx_calli (vx_runV (n := 2) (As := [.int (iz a), .int (iz b)]) (rest := [.int (iz 0), .ref ao]) C.1 (c_X10_peak l hlt X hinj hZ N S a b o hf s.heap.size) ⟨callB_of 2 htsU (uw_ws tw5_63) rfl rfl rfl (htsU _ tw1_1) (htsU _ tw5_60) hd_X10_peak ⟨Nat.le_of_ble_eq_true rfl, Nat.le_of_ble_eq_true rfl⟩, htsU _ tw5_61, htsU _ tw5_62⟩ ⟨preP_blind hZ, va_recv hK hP (ci := 10) (q0 := 0) (fs := fvs X.2.2 S 0 0 _) cO10.1 (by rw [XW, wld_get ltC_0, shC_0]; rfl), preP_of C hw hzx⟩ rfl rfl hl.1 rfl (lv_room (Nat.le_of_ble_eq_true rfl)) dL_peak_5 ⟨Nat.le_of_ble_eq_true rfl, Nat.le_of_ble_eq_true rfl⟩) hS (fun q _ h => Or.inl h) (fun q h => Or.inl h) (fun q _ h => Or.inl h) ?_ ?_
  · intro E ce q9 u t H1 locs1 ht hvm hpx hBX hsz hkeep hS1 hce hcv hcl
    obtain ⟨rfl, hP1⟩ := hBX
    refine vx_catch (own := RL) (name := xnX) hown [] ⟨0, 10, 13, 13⟩ [] htab (fun z hz => nomatch hz) (by decide) (by decide) (htsU _ tw5_59) (va_Nw.use rfl hzx.2.2.1) hce hcv hcl ?_
    refine lv_astore (lv' := [(4, .ref q9), (0, .ref (X.2.2 0)), (1, .int (iz a)), (2, .int (iz b)), (3, .ref ao)]) C.1.1 C.1.2.1 dL_peak_13 hl (by decide) rfl (fun ls hl => ?_)
    refine lv_iconst (v := iz 1) C.1.1 C.1.2.1 dL_peak_15 (by decide) ?_
    have hno : o.1 = none := hpx
    exact W.iret (v := iz 1) C.1.1 C.1.2.1 C.2.2.1 (fun t' ht' hW => ⟨⟨iz 1, (), rfl, by rw [hno]; rfl, by rw [ht', ← ht]; exact hP1, fo, by rw [ht']; exact hkeepo hkeep, fun v hv => by rw [hno] at hv; cases hv⟩, hS1.F ht'⟩) hS1.2.2 dL_peak_16 C.2.1
  · intro r u t H1 locs1 ht hvm hpost hB hsz hkeep hS1
    obtain ⟨v, ho, hr⟩ := hpost
    subst hr
    have hP1 : va_P X.1 vwCl (XW X shC nC o.2) H1 := by rw [← ht]; exact hB
    have hPo1 := hkeepo hkeep
    refine lv_i2l (v := (iz v).toInt64) C.1.1 C.1.2.1 dL_peak_8 rfl ?_
    have hDa : va_D (AL X ao s.heap.size) (XW X shC nC o.2 ++ oW X ao fo) := by
      have h1 : va_D (XA X nC s.heap.size) (XW X shC nC o.2) := X_D hinj
      refine D_app1 ⟨h1.1, fun k q hk => Or.inl (h1.2 k q hk)⟩ (Or.inr rfl) (fun k q hk => ?_)
      have h2 : k < nC := by
        have := (List.getElem?_eq_some_iff.mp hk).1; rwa [XW, wld_len] at this
      rw [XW, wld_get h2] at hk
      cases hk
      exact hao k h2
    refine va_last C.1.1 C.1.2.1 hK (hP1.app hPo1) hDa hS1 nC 2 (f := fo) (n := 1) (cA := X.2.1 2) (by rw [List.getElem?_append_right (by rw [XW, wld_len]; exact Nat.le_refl _)]; simp [XW, wld_len]) rfl (iz_vp (by decide) (by decide) (by decide)) dL_peak_9 (fun H2 locs2 hP2 hD2 hS2 => ?_)
    have hset : (XW X shC nC o.2 ++ oW X ao fo).set nC (ao, .inl (X.2.1 2, 1, .inr (.inl (vp_updL fo (iz 0).toNatClampNeg (iz v).toInt64)))) = XW X shC nC o.2 ++ oW X ao (vp_updL fo (iz 0).toNatClampNeg (iz v).toInt64) := by
      rw [List.set_append_right _ _ (by rw [XW, wld_len]; exact Nat.le_refl _)]; simp [XW, wld_len]
    rw [hset] at hP2
    refine lv_goto (tgt := 17) C.1.1 C.1.2.1 dL_peak_10 (by decide) ?_
    refine lv_iconst (v := iz 0) C.1.1 C.1.2.1 dL_peak_17 (by decide) ?_
    exact W.iret (v := iz 0) C.1.1 C.1.2.1 C.2.2.1 (fun t' ht' hW => ⟨⟨iz 0, (), rfl, by rw [ho]; rfl, by rw [ht']; exact P_left hP2, _, by rw [ht']; exact P_right hP2, fun w hw => by rw [ho] at hw; cases hw; rfl⟩, hS2.F ht'⟩) hS2.2.2 dL_peak_18 C.2.1
