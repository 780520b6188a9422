theorem iz_char {v : Int} (h0 : 0 ≤ v) (h1 : v < 65536) : vp_nar .char (iz v) = iz v := by
  obtain ⟨q, rfl⟩ := Int.eq_ofNat_of_zero_le h0
  have hq : q < 65536 := by omega
  have h2 := (pk_charN hq).1
  have h3 : iz (q : Int) = nI q := rfl
  have h4 : narrow .char (.int (nI q)) = .int (vp_nar .char (nI q)) := rfl
  rw [h3]
  rw [h4] at h2
  exact Value.int.inj h2
section ROWS
variable {p : Program} {l : Launch} {e : Env} {R : Room} {s : State} {m : MethodId} {args : Array Value} {below : List Frame} {meth : Method} {c : Code} {H : Heap} {locs : List Loc} {Q : State → Prop}
variable {cc : ByteArray} {pc nL : Nat} {own : String} {ret0 : Option FieldType} {ls : Array Slot} {rest : List Value} {X : XT} {sh : Nat → Sh} {n : Nat} {Z : ZT} {S : S2} {α : Type} {out : α}
/-- getfield of a reference to a cell that stands -/
theorem r_getR (C : CX p s m args meth c cc nL own ret0 X n Z) (hw : WH X sh n s S H locs) {i ci k j idx : Nat} {fl : List (Nat × Nat)} {Cn ref : String} {T : u_T} {N : Nat} {ty0 : Nat → FieldType} (hsh : sh i = .inl (ci, fl)) (hi : i < n) (O : ClsOK ci Cn T N ty0) (hf0 : fl[k]? = some (2, j)) (hk : k < N) (hlink : Cond.fieldLink own idx ref (T k).2.1 (T k).2.2.1 ∈ UW) (hr : (T k).1 = ref) (hdg : decode cc pc = .ok (.getfield idx, 3))
    (kk : W p l e R s m args below meth c H locs 0 0 Q (F0 m (pc + 3) ls (.ref (X.2.2 j) :: rest))) : W p l e R s m args below meth c H locs 0 0 Q (F0 m pc ls (.ref (X.2.2 i) :: rest)) := by
  obtain ⟨⟨hx, hb, hml, hown, hts⟩, -, -, -, hK, -⟩ := C
  have hv : (fvs X.2.2 S i 0 fl)[k]? = some (.ref (X.2.2 j)) := by rw [fvs_get fl 0 k hf0]; rfl
  refine va_get hx hb hts O.2.1 hown hK hw.1 i (fs := fvs X.2.2 S i 0 fl) (ci := ci) ?_ O.1 k hk (hts _ hlink) (fun x h => by rw [← hr]; exact h) hv hdg kk
  rw [XW, wld_get hi, hsh]; rfl
theorem r_getI (C : CX p s m args meth c cc nL own ret0 X n Z) (hw : WH X sh n s S H locs) {i ci k j idx : Nat} {fl : List (Nat × Nat)} {Cn ref : String} {T : u_T} {N : Nat} {ty0 : Nat → FieldType} (hsh : sh i = .inl (ci, fl)) (hi : i < n) (O : ClsOK ci Cn T N ty0) (hf0 : fl[k]? = some (0, j)) (hk : k < N) (hlink : Cond.fieldLink own idx ref (T k).2.1 (T k).2.2.1 ∈ UW) (hr : (T k).1 = ref) (hdg : decode cc pc = .ok (.getfield idx, 3)) {K : Int → Option α} (hf : gI S i k K = some out)
    (kk : ∀ v : Int, K v = some out → W p l e R s m args below meth c H locs 0 0 Q (F0 m (pc + 3) ls (.int (iz v) :: rest))) : W p l e R s m args below meth c H locs 0 0 Q (F0 m pc ls (.ref (X.2.2 i) :: rest)) := by
  obtain ⟨⟨hx, hb, hml, hown, hts⟩, -, -, -, hK, -⟩ := C
  have hv : (fvs X.2.2 S i 0 fl)[k]? = some (.int (iz (S.1 i k))) := by rw [fvs_get fl 0 k hf0, Nat.zero_add]; rfl
  refine va_get hx hb hts O.2.1 hown hK hw.1 i (fs := fvs X.2.2 S i 0 fl) (ci := ci) ?_ O.1 k hk (hts _ hlink) (fun x h => by rw [← hr]; exact h) hv hdg (kk _ hf)
  rw [XW, wld_get hi, hsh]; rfl
theorem r_getL (C : CX p s m args meth c cc nL own ret0 X n Z) (hw : WH X sh n s S H locs) {i ci k j idx : Nat} {fl : List (Nat × Nat)} {Cn ref : String} {T : u_T} {N : Nat} {ty0 : Nat → FieldType} (hsh : sh i = .inl (ci, fl)) (hi : i < n) (O : ClsOK ci Cn T N ty0) (hf0 : fl[k]? = some (1, j)) (hk : k < N) (hlink : Cond.fieldLink own idx ref (T k).2.1 (T k).2.2.1 ∈ UW) (hr : (T k).1 = ref) (hdg : decode cc pc = .ok (.getfield idx, 3)) {K : Int64 → Option α} (hf : gL S i k K = some out)
    (kk : ∀ v : Int64, K v = some out → W p l e R s m args below meth c H locs 0 0 Q (F0 m (pc + 3) ls (.long v :: rest))) : W p l e R s m args below meth c H locs 0 0 Q (F0 m pc ls (.ref (X.2.2 i) :: rest)) := by
  obtain ⟨⟨hx, hb, hml, hown, hts⟩, -, -, -, hK, -⟩ := C
  have hv : (fvs X.2.2 S i 0 fl)[k]? = some (.long (S.2 i k)) := by rw [fvs_get fl 0 k hf0, Nat.zero_add]; rfl
  refine va_get hx hb hts O.2.1 hown hK hw.1 i (fs := fvs X.2.2 S i 0 fl) (ci := ci) ?_ O.1 k hk (hts _ hlink) (fun x h => by rw [← hr]; exact h) hv hdg (kk _ hf)
  rw [XW, wld_get hi, hsh]; rfl
theorem r_putv (C : CX p s m args meth c cc nL own ret0 X n Z) (hw : WH X sh n s S H locs) {i ci k idx : Nat} {fl : List (Nat × Nat)} {Cn ref : String} {T : u_T} {N : Nat} {ty0 : Nat → FieldType} (hsh : sh i = .inl (ci, fl)) (hi : i < n) (O : ClsOK ci Cn T N ty0) (hk : k < N) (hlink : Cond.fieldLink own idx ref (T k).2.1 (T k).2.2.1 ∈ UW) (hr : (T k).1 = ref) (hfin : (T k).2.2.2 = false) (hl : k < fl.length) {v : Value} (hn : narrow (ty0 k) v = v) (hfit : fits (ty0 k) v = true) (hcat : v.category = 1 ∨ v.category = 2) (hdg : decode cc pc = .ok (.putfield idx, 3)) {S' : S2} (hS : (XW X sh n S).set i (X.2.2 i, .inr (ci, (fvs X.2.2 S i 0 fl).set k v)) = XW X sh n S')
    (kk : ∀ (H1 : Heap) (locs1 : List Loc), WH X sh n s S' H1 locs1 → W p l e R s m args below meth c H1 locs1 0 0 Q (F0 m (pc + 3) ls rest)) : W p l e R s m args below meth c H locs 0 0 Q (F0 m pc ls (v :: .ref (X.2.2 i) :: rest)) := by
  obtain ⟨⟨hx, hb, hml, hown, hts⟩, -, -, hinj, hK, -⟩ := C
  refine va_put hx hb hts O.2.1 ty0 O.2.2.1 O.2.2.2 hown hK hw.1 (X_D hinj) hw.2 i (fs := fvs X.2.2 S i 0 fl) (ci := ci) ?_ O.1 k hk (hts _ hlink) (fun x h => by rw [← hr]; exact h) hfin (O.2.2.1 k hk) hn hfit (by rw [fvs_len]; exact hl) hdg (fun H1 locs1 hP hD hS1 => kk H1 locs1 ⟨by rw [← hS]; exact hP, hS1⟩)
  rw [XW, wld_get hi, hsh]; rfl
theorem r_putI (C : CX p s m args meth c cc nL own ret0 X n Z) (hw : WH X sh n s S H locs) {i ci k j idx : Nat} {fl : List (Nat × Nat)} {Cn ref : String} {T : u_T} {N : Nat} {ty0 : Nat → FieldType} (hsh : sh i = .inl (ci, fl)) (hi : i < n) (O : ClsOK ci Cn T N ty0) (hf0 : fl[k]? = some (0, j)) (hk : k < N) (hlink : Cond.fieldLink own idx ref (T k).2.1 (T k).2.2.1 ∈ UW) (hr : (T k).1 = ref) (hfin : (T k).2.2.2 = false) (hty : ty0 k = .int) {v : Int} (hdg : decode cc pc = .ok (.putfield idx, 3)) {K : S2 → Option α} (hf : uI S i k v K = some out)
    (kk : ∀ (S' : S2) (H1 : Heap) (locs1 : List Loc), K S' = some out → WH X sh n s S' H1 locs1 → W p l e R s m args below meth c H1 locs1 0 0 Q (F0 m (pc + 3) ls rest)) : W p l e R s m args below meth c H locs 0 0 Q (F0 m pc ls (.int (iz v) :: .ref (X.2.2 i) :: rest)) := by
  refine r_putv C hw hsh hi O hk hlink hr hfin (List.getElem?_eq_some_iff.mp hf0).1 (by rw [hty]; rfl) (by rw [hty]; rfl) (Or.inl rfl) hdg (S' := pI S i k v) ?_ (fun H1 locs1 h => kk _ H1 locs1 hf h)
  refine wld_set ?_ (fun j hj => cel_cong (pI_row hj) rfl)
  rw [hsh]
  show Sum.inr (ci, fvs X.2.2 (pI S i k v) i 0 fl) = _
  have h1 := fvs_pI (ad := X.2.2) (S := S) (i := i) (v := v) fl 0 k hf0
  rw [Nat.zero_add] at h1
  rw [h1]
theorem bool_nar {v : Int} (h : v = 0 ∨ v = 1) : narrow .boolean (.int (iz v)) = .int (iz v) := by rcases h with rfl | rfl <;> rfl
theorem bool_fit {v : Int} (h : v = 0 ∨ v = 1) : fits .boolean (.int (iz v)) = true := by rcases h with rfl | rfl <;> rfl
theorem r_putZ (C : CX p s m args meth c cc nL own ret0 X n Z) (hw : WH X sh n s S H locs) {i ci k j idx : Nat} {fl : List (Nat × Nat)} {Cn ref : String} {T : u_T} {N : Nat} {ty0 : Nat → FieldType} (hsh : sh i = .inl (ci, fl)) (hi : i < n) (O : ClsOK ci Cn T N ty0) (hf0 : fl[k]? = some (0, j)) (hk : k < N) (hlink : Cond.fieldLink own idx ref (T k).2.1 (T k).2.2.1 ∈ UW) (hr : (T k).1 = ref) (hfin : (T k).2.2.2 = false) (hty : ty0 k = .boolean) {v : Int} (hdg : decode cc pc = .ok (.putfield idx, 3)) {K : S2 → Option α} (hf : uZ S i k v K = some out)
    (kk : ∀ (S' : S2) (H1 : Heap) (locs1 : List Loc), K S' = some out → WH X sh n s S' H1 locs1 → W p l e R s m args below meth c H1 locs1 0 0 Q (F0 m (pc + 3) ls rest)) : W p l e R s m args below meth c H locs 0 0 Q (F0 m pc ls (.int (iz v) :: .ref (X.2.2 i) :: rest)) := by
  obtain ⟨h01, hf⟩ := ite_none hf
  refine r_putv C hw hsh hi O hk hlink hr hfin (List.getElem?_eq_some_iff.mp hf0).1 (by rw [hty]; exact bool_nar h01) (by rw [hty]; exact bool_fit h01) (Or.inl rfl) hdg (S' := pI S i k v) ?_ (fun H1 locs1 h => kk _ H1 locs1 hf h)
  refine wld_set ?_ (fun j hj => cel_cong (pI_row hj) rfl)
  rw [hsh]
  show Sum.inr (ci, fvs X.2.2 (pI S i k v) i 0 fl) = _
  have h1 := fvs_pI (ad := X.2.2) (S := S) (i := i) (v := v) fl 0 k hf0
  rw [Nat.zero_add] at h1
  rw [h1]
theorem r_putL (C : CX p s m args meth c cc nL own ret0 X n Z) (hw : WH X sh n s S H locs) {i ci k j idx : Nat} {fl : List (Nat × Nat)} {Cn ref : String} {T : u_T} {N : Nat} {ty0 : Nat → FieldType} (hsh : sh i = .inl (ci, fl)) (hi : i < n) (O : ClsOK ci Cn T N ty0) (hf0 : fl[k]? = some (1, j)) (hk : k < N) (hlink : Cond.fieldLink own idx ref (T k).2.1 (T k).2.2.1 ∈ UW) (hr : (T k).1 = ref) (hfin : (T k).2.2.2 = false) (hty : ty0 k = .long) {v : Int64} (hdg : decode cc pc = .ok (.putfield idx, 3)) {K : S2 → Option α} (hf : uL S i k v K = some out)
    (kk : ∀ (S' : S2) (H1 : Heap) (locs1 : List Loc), K S' = some out → WH X sh n s S' H1 locs1 → W p l e R s m args below meth c H1 locs1 0 0 Q (F0 m (pc + 3) ls rest)) : W p l e R s m args below meth c H locs 0 0 Q (F0 m pc ls (.long v :: .ref (X.2.2 i) :: rest)) := by
  refine r_putv C hw hsh hi O hk hlink hr hfin (List.getElem?_eq_some_iff.mp hf0).1 (by rw [hty]; rfl) (by rw [hty]; rfl) (Or.inr rfl) hdg (S' := pL S i k v) ?_ (fun H1 locs1 h => kk _ H1 locs1 hf h)
  refine wld_set ?_ (fun j hj => cel_cong rfl (pL_row hj))
  rw [hsh]
  show Sum.inr (ci, fvs X.2.2 (pL S i k v) i 0 fl) = _
  have h1 := fvs_pL (ad := X.2.2) (S := S) (i := i) (v := v) fl 0 k hf0
  rw [Nat.zero_add] at h1
  rw [h1]
theorem r_iald (C : CX p s m args meth c cc nL own ret0 X n Z) (hw : WH X sh n s S H locs) {i len : Nat} {el : Nat → Nat} (hsh : sh i = .inr (0, len, el)) (hi : i < n) (hlen : len ≤ 2147483647) {x : Int} (hdg : decode cc pc = .ok (.iaload, 1)) {K : Int → Option α} (hf : aI S i len x K = some out)
    (kk : ∀ v : Int, K v = some out → W p l e R s m args below meth c H locs 0 0 Q (F0 m (pc + 1) ls (.int (iz v) :: rest))) : W p l e R s m args below meth c H locs 0 0 Q (F0 m pc ls (.int (iz x) :: .ref (X.2.2 i) :: rest)) := by
  obtain ⟨⟨h0, h1⟩, hf⟩ := ite_none hf
  have e : S.1 i x = S.1 i ((iz x).toNatClampNeg : Nat) := by rw [iz_nat h0 (by omega), Int.toNat_of_nonneg h0]
  refine va_iald C.1.1 C.1.2.1 C.2.2.2.2.1 hw.1 i 0 (f := fun j => iz (S.1 i j)) (n := len) (cA := X.2.1 0) ?_ rfl (iz_vp h0 h1 hlen) hdg (by have := kk _ hf; rw [e] at this; exact this)
  rw [XW, wld_get hi, hsh]; rfl
theorem r_cald (C : CX p s m args meth c cc nL own ret0 X n Z) (hw : WH X sh n s S H locs) {i len : Nat} {el : Nat → Nat} (hsh : sh i = .inr (1, len, el)) (hi : i < n) (hlen : len ≤ 2147483647) {x : Int} (hdg : decode cc pc = .ok (.caload, 1)) {K : Int → Option α} (hf : aI S i len x K = some out)
    (kk : ∀ v : Int, K v = some out → W p l e R s m args below meth c H locs 0 0 Q (F0 m (pc + 1) ls (.int (iz v) :: rest))) : W p l e R s m args below meth c H locs 0 0 Q (F0 m pc ls (.int (iz x) :: .ref (X.2.2 i) :: rest)) := by
  obtain ⟨⟨h0, h1⟩, hf⟩ := ite_none hf
  have e : S.1 i x = S.1 i ((iz x).toNatClampNeg : Nat) := by rw [iz_nat h0 (by omega), Int.toNat_of_nonneg h0]
  refine va_cald C.1.1 C.1.2.1 C.2.2.2.2.1 hw.1 i 1 (f := fun j => iz (S.1 i j)) (n := len) (cA := X.2.1 1) ?_ rfl (iz_vp h0 h1 hlen) hdg (by have := kk _ hf; rw [e] at this; exact this)
  rw [XW, wld_get hi, hsh]; rfl
theorem r_lald (C : CX p s m args meth c cc nL own ret0 X n Z) (hw : WH X sh n s S H locs) {i len : Nat} {el : Nat → Nat} (hsh : sh i = .inr (2, len, el)) (hi : i < n) (hlen : len ≤ 2147483647) {x : Int} (hdg : decode cc pc = .ok (.laload, 1)) {K : Int64 → Option α} (hf : aL S i len x K = some out)
    (kk : ∀ v : Int64, K v = some out → W p l e R s m args below meth c H locs 0 0 Q (F0 m (pc + 1) ls (.long v :: rest))) : W p l e R s m args below meth c H locs 0 0 Q (F0 m pc ls (.int (iz x) :: .ref (X.2.2 i) :: rest)) := by
  obtain ⟨⟨h0, h1⟩, hf⟩ := ite_none hf
  have e : S.2 i x = S.2 i ((iz x).toNatClampNeg : Nat) := by rw [iz_nat h0 (by omega), Int.toNat_of_nonneg h0]
  refine va_lald C.1.1 C.1.2.1 C.2.2.2.2.1 hw.1 i 2 (f := fun j => S.2 i j) (n := len) (cA := X.2.1 2) ?_ rfl (iz_vp h0 h1 hlen) hdg (by have := kk _ hf; rw [e] at this; exact this)
  rw [XW, wld_get hi, hsh]; rfl
/-- an element of a row of references: the j-th cell of the row's -/
theorem r_aald (C : CX p s m args meth c cc nL own ret0 X n Z) (hw : WH X sh n s S H locs) {i len t : Nat} {Cn : String} {el : Nat → Nat} (hsh : sh i = .inr (t + 3, len, el)) (ht : (tysA X.2.1)[t + 3]? = some (X.2.1 (t + 3), .object Cn)) (hi : i < n) (hlen : len ≤ 2147483647) {x : Int} (hdg : decode cc pc = .ok (.aaload, 1)) {K : Nat → Option α} (hf : aR len x K = some out)
    (kk : ∀ j : Nat, j < len → K j = some out → W p l e R s m args below meth c H locs 0 0 Q (F0 m (pc + 1) ls (.ref (X.2.2 (el j)) :: rest))) : W p l e R s m args below meth c H locs 0 0 Q (F0 m pc ls (.int (iz x) :: .ref (X.2.2 i) :: rest)) := by
  obtain ⟨⟨h0, h1⟩, hf⟩ := ite_none hf
  have hj : x.toNat < len := by omega
  refine va_aldq C.1.1 C.1.2.1 C.2.2.2.2.1 hw.1 i (t + 3) (f := fun j => some (X.2.2 (el j))) (n := len) (cA := X.2.1 (t + 3)) ?_ ht (iz_vp h0 h1 hlen) hdg (by have := kk _ hj hf; rw [← iz_nat h0 (by omega)] at this; exact this)
  rw [XW, wld_get hi, hsh]; rfl
theorem r_iast (C : CX p s m args meth c cc nL own ret0 X n Z) (hw : WH X sh n s S H locs) {i len : Nat} {el : Nat → Nat} (hsh : sh i = .inr (0, len, el)) (hi : i < n) (hlen : len ≤ 2147483647) {x v : Int} (hdg : decode cc pc = .ok (.iastore, 1)) {K : S2 → Option α} (hf : sI S i len x v K = some out)
    (kk : ∀ (S' : S2) (H1 : Heap) (locs1 : List Loc), K S' = some out → WH X sh n s S' H1 locs1 → W p l e R s m args below meth c H1 locs1 0 0 Q (F0 m (pc + 1) ls rest)) : W p l e R s m args below meth c H locs 0 0 Q (F0 m pc ls (.int (iz v) :: .int (iz x) :: .ref (X.2.2 i) :: rest)) := by
  obtain ⟨⟨h0, h1⟩, hf⟩ := ite_none hf
  refine va_iast C.1.1 C.1.2.1 C.2.2.2.2.1 hw.1 (X_D C.2.2.2.1) hw.2 i 0 (f := fun j => iz (S.1 i j)) (n := len) (cA := X.2.1 0) ?_ rfl (iz_vp h0 h1 hlen) hdg (fun H1 locs1 hP hD hS1 => kk _ H1 locs1 hf ⟨?_, hS1⟩)
  · rw [XW, wld_get hi, hsh]; rfl
  · have h2 : (XW X sh n S).set i (X.2.2 i, .inl (X.2.1 0, len, .inl (upd (fun j : Nat => iz (S.1 i j)) (iz x).toNatClampNeg (iz v)))) = XW X sh n (pI S i x v) := by
      refine wld_set ?_ (fun j hj => cel_cong (pI_row hj) rfl)
      rw [hsh]; show Sum.inl (X.2.1 0, len, Sum.inl (fun j : Nat => iz ((pI S i x v).1 i j))) = _; rw [pI_same h0 (by omega)]
    rw [← h2]; exact hP
theorem r_cast (C : CX p s m args meth c cc nL own ret0 X n Z) (hw : WH X sh n s S H locs) {i len : Nat} {el : Nat → Nat} (hsh : sh i = .inr (1, len, el)) (hi : i < n) (hlen : len ≤ 2147483647) {x v : Int} (hdg : decode cc pc = .ok (.castore, 1)) {K : S2 → Option α} (hf : sC S i len x v K = some out)
    (kk : ∀ (S' : S2) (H1 : Heap) (locs1 : List Loc), K S' = some out → WH X sh n s S' H1 locs1 → W p l e R s m args below meth c H1 locs1 0 0 Q (F0 m (pc + 1) ls rest)) : W p l e R s m args below meth c H locs 0 0 Q (F0 m pc ls (.int (iz v) :: .int (iz x) :: .ref (X.2.2 i) :: rest)) := by
  obtain ⟨⟨⟨h0, h1⟩, hv0, hv1⟩, hf⟩ := ite_none hf
  have hn : vp_nar .char (iz v) = iz v := iz_char hv0 hv1
  refine va_cast C.1.1 C.1.2.1 C.2.2.2.2.1 hw.1 (X_D C.2.2.2.1) hw.2 i 1 (f := fun j => iz (S.1 i j)) (n := len) (cA := X.2.1 1) ?_ rfl (iz_vp h0 h1 hlen) hdg (fun H1 locs1 hP hD hS1 => kk _ H1 locs1 hf ⟨?_, hS1⟩)
  · rw [XW, wld_get hi, hsh]; rfl
  · have h2 : (XW X sh n S).set i (X.2.2 i, .inl (X.2.1 1, len, .inl (upd (fun j : Nat => iz (S.1 i j)) (iz x).toNatClampNeg (vp_nar .char (iz v))))) = XW X sh n (pI S i x v) := by
      refine wld_set ?_ (fun j hj => cel_cong (pI_row hj) rfl)
      rw [hsh]; show Sum.inl (X.2.1 1, len, Sum.inl (fun j : Nat => iz ((pI S i x v).1 i j))) = _; rw [pI_same h0 (by omega), hn]
    rw [← h2]; exact hP
theorem r_last (C : CX p s m args meth c cc nL own ret0 X n Z) (hw : WH X sh n s S H locs) {i len : Nat} {el : Nat → Nat} (hsh : sh i = .inr (2, len, el)) (hi : i < n) (hlen : len ≤ 2147483647) {x : Int} {v : Int64} (hdg : decode cc pc = .ok (.lastore, 1)) {K : S2 → Option α} (hf : sL S i len x v K = some out)
    (kk : ∀ (S' : S2) (H1 : Heap) (locs1 : List Loc), K S' = some out → WH X sh n s S' H1 locs1 → W p l e R s m args below meth c H1 locs1 0 0 Q (F0 m (pc + 1) ls rest)) : W p l e R s m args below meth c H locs 0 0 Q (F0 m pc ls (.long v :: .int (iz x) :: .ref (X.2.2 i) :: rest)) := by
  obtain ⟨⟨h0, h1⟩, hf⟩ := ite_none hf
  refine va_last C.1.1 C.1.2.1 C.2.2.2.2.1 hw.1 (X_D C.2.2.2.1) hw.2 i 2 (f := fun j => S.2 i j) (n := len) (cA := X.2.1 2) ?_ rfl (iz_vp h0 h1 hlen) hdg (fun H1 locs1 hP hD hS1 => kk _ H1 locs1 hf ⟨?_, hS1⟩)
  · rw [XW, wld_get hi, hsh]; rfl
  · have h2 : (XW X sh n S).set i (X.2.2 i, .inl (X.2.1 2, len, .inr (.inl (vp_updL (fun j : Nat => S.2 i j) (iz x).toNatClampNeg v)))) = XW X sh n (pL S i x v) := by
      refine wld_set ?_ (fun j hj => cel_cong rfl (pL_row hj))
      rw [hsh]; show Sum.inl (X.2.1 2, len, Sum.inr (Sum.inl (fun j : Nat => (pL S i x v).2 i j))) = _; rw [pL_same h0 (by omega)]
    rw [← h2]; exact hP
end ROWS
