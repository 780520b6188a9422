section STR2
variable {p : Program} {l : Launch} {e : Env} {R : Room} {s : State} {m : MethodId} {args : Array Value} {below : List Frame} {meth : Method} {c : Code} {H : Heap} {locs : List Loc} {Q : State → Prop}
variable {cc : ByteArray} {pc nL : Nat} {own : String} {ret0 : Option FieldType} {ls : Array Slot} {rest : List Value} {X : XT} {sh : Nat → Sh} {n : Nat} {Z : ZT} {S : S2} {α : Type} {out : α}
theorem r_sLen (C : CX p s m args meth c cc nL RX6 ret0 X nC (Zc X)) (hw : WH X shC nC s S H locs) (hinj : XInj X nC) (hZ : ZOK (Zc X)) {w : Nat} (hi : w < 13) (hsize : ls.size = nL) (hW : (rest.map fun v => v.category).sum ≤ 8) (hfr : 2 ≤ R.frames) (hlo : 40 ≤ R.locals) (hdg : decode cc pc = .ok (.invokevirtual 87, 3))
    (kk : ∀ (H1 : Heap) (locs1 : List Loc), WH X shC nC s S H1 locs1 → W p l e R s m args below meth c H1 locs1 0 0 Q (F0 m (pc + 3) ls (.int (iz (sLn w)) :: rest))) : W p l e R s m args below meth c H locs 0 0 Q (F0 m pc ls (.ref (X.2.2 (1000 + w)) :: rest)) := by
  refine r_callG (As := []) (rest := rest) (rm := rmS1) (Cn := "java/lang/String") (α := Int × S2) (out := (sLn w, S)) C hw (vk_recv (zcC C).1 hi hw.2) tw2_161 tw2_162 tw2_163 tw1_13 tw2_164 hd_len rfl ⟨⟨rfl, rfl⟩, hfr, hlo⟩ hsize rfl hW hdg (x := some (sLn w, S)) (K := fun r S' => some (r, S')) rfl (fun o ho => by cases ho; exact c_strLen l X hinj hZ hi S) (fun v S' H1 locs1 hf hw1 => ?_)
  cases hf
  exact kk H1 locs1 hw1
theorem r_sAt (C : CX p s m args meth c cc nL RX6 ret0 X nC (Zc X)) (hw : WH X shC nC s S H locs) (hinj : XInj X nC) (hZ : ZOK (Zc X)) {w : Nat} (hi : w < 13) (hsize : ls.size = nL) (hW : (rest.map fun v => v.category).sum ≤ 8) (hfr : 4 ≤ R.frames) (hlo : 85 ≤ R.locals) {x : Int} (hdg : decode cc pc = .ok (.invokevirtual 92, 3)) {K : Int → Option α} (hf : sAt w x K = some out)
    (kk : ∀ (v : Int) (H1 : Heap) (locs1 : List Loc), K v = some out → WH X shC nC s S H1 locs1 → W p l e R s m args below meth c H1 locs1 0 0 Q (F0 m (pc + 3) ls (.int (iz v) :: rest))) : W p l e R s m args below meth c H locs 0 0 Q (F0 m pc ls (.int (iz x) :: .ref (X.2.2 (1000 + w)) :: rest)) := by
  obtain ⟨⟨h0, h1⟩, hf⟩ := ite_none hf
  refine r_callG (As := [.int (iz x)]) (rest := rest) (rm := rmS4) (Cn := "java/lang/String") (α := Int × S2) (out := (sCh w x.toNat, S)) C hw (vk_recv (zcC C).1 hi hw.2) tw2_171 tw2_172 tw2_173 tw1_13 tw2_174 hd_chr rfl ⟨⟨rfl, rfl⟩, hfr, hlo⟩ hsize rfl hW hdg (x := some (sCh w x.toNat, S)) (K := fun r S' => some (r, S')) rfl (fun o ho => by cases ho; exact c_charAt l X hinj hZ hi S h0 h1) (fun v S' H1 locs1 hg hw1 => ?_)
  cases hg
  exact kk _ H1 locs1 hf hw1
end STR2
def wordIx (a : Int) : Nat := if a = 0 then 4 else if a = 1 then 5 else if a = 2 then 6 else if a = 3 then 7 else if a = 4 then 8 else if a = 5 then 9 else if a = 6 then 10 else if a = 7 then 11 else if a = 8 then 1 else 12
theorem wordIx_lt (a : Int) : wordIx a < 13 := by
  unfold wordIx
  repeat' split
  all_goals decide
abbrev rmX7_wordOf : Room := { frames := 0, cells := 0, slots := 0, locals := 0 }
def f_X7_wordOf (N : Nat) (S : S2) (a0 : Int) : Option (S2) := cI a0 0 (rV S)
theorem hd_X7_wordOf : yX7_wordOf.cls ≠ "java/lang/invoke/MethodHandle" ∧ yX7_wordOf.cls ≠ "java/lang/invoke/VarHandle" ∧ (parseMethodDescriptor yX7_wordOf.desc).map (fun d => d.parameters.length) = some 1 := by decide +kernel
set_option maxRecDepth 100000 in
set_option maxHeartbeats 4000000 in
theorem c_X7_wordOf (l : Launch) (X : XT) (hinj : XInj X nC) (hZ : ZOK (Zc X)) (N : Nat) (S : S2) (a0 : Int) (out : S2) (hf : f_X7_wordOf N S a0 = some out) : MR l X shC nC (Zc X) yX7_wordOf cX7_wordOf 1 (some (.object "java/lang/String")) rmX7_wordOf [.int (iz a0)] S (X.2.2 (1000 + wordIx a0)) out := by
  refine met_R (own := RX7) (by decide) rfl hinj hZ (Nat.le_of_ble_eq_true rfl) (fun p e s m args below meth c C ls H locs hw hl => ?_)
  unfold f_X7_wordOf at hf
  obtain ⟨⟨hsw, -⟩, hf⟩ := cI_some hf
  have hl : lv_has ls 1 [(0, .int (iz a0))] := hl
  refine lv_iload_n C.1.1 C.1.2.1 dX7_wordOf_0 rfl (lv_at hl 0 rfl) ?_
  by_cases h0 : a0 = 0
  · refine lv_tableIn (tgt := 52) C.1.1 C.1.2.1 dX7_wordOf_1 (by rw [h0]; decide) (by rw [h0]; decide) (by rw [h0]; rfl) (by decide) ?_
    refine va_ldcS C.1.1 C.1.2.1 C.1.2.2.2.1 (zc_RX7_21 (zcC C)) dX7_wordOf_52 ?_
    have ew : wordIx a0 = 4 := by rw [h0]; decide
    rw [ew]
    exact r_retR C (Or.inl ⟨_, rfl⟩) hw dX7_wordOf_54 hf
  by_cases h1 : a0 = 1
  · refine lv_tableIn (tgt := 55) C.1.1 C.1.2.1 dX7_wordOf_1 (by rw [h1]; decide) (by rw [h1]; decide) (by rw [h1]; rfl) (by decide) ?_
    refine va_ldcS C.1.1 C.1.2.1 C.1.2.2.2.1 (zc_RX7_23 (zcC C)) dX7_wordOf_55 ?_
    have ew : wordIx a0 = 5 := by rw [h1]; decide
    rw [ew]
    exact r_retR C (Or.inl ⟨_, rfl⟩) hw dX7_wordOf_57 hf
  by_cases h2 : a0 = 2
  · refine lv_tableIn (tgt := 58) C.1.1 C.1.2.1 dX7_wordOf_1 (by rw [h2]; decide) (by rw [h2]; decide) (by rw [h2]; rfl) (by decide) ?_
    refine va_ldcS C.1.1 C.1.2.1 C.1.2.2.2.1 (zc_RX7_25 (zcC C)) dX7_wordOf_58 ?_
    have ew : wordIx a0 = 6 := by rw [h2]; decide
    rw [ew]
    exact r_retR C (Or.inl ⟨_, rfl⟩) hw dX7_wordOf_60 hf
  by_cases h3 : a0 = 3
  · refine lv_tableIn (tgt := 61) C.1.1 C.1.2.1 dX7_wordOf_1 (by rw [h3]; decide) (by rw [h3]; decide) (by rw [h3]; rfl) (by decide) ?_
    refine va_ldcS C.1.1 C.1.2.1 C.1.2.2.2.1 (zc_RX7_27 (zcC C)) dX7_wordOf_61 ?_
    have ew : wordIx a0 = 7 := by rw [h3]; decide
    rw [ew]
    exact r_retR C (Or.inl ⟨_, rfl⟩) hw dX7_wordOf_63 hf
  by_cases h4 : a0 = 4
  · refine lv_tableIn (tgt := 64) C.1.1 C.1.2.1 dX7_wordOf_1 (by rw [h4]; decide) (by rw [h4]; decide) (by rw [h4]; rfl) (by decide) ?_
    refine va_ldcS C.1.1 C.1.2.1 C.1.2.2.2.1 (zc_RX7_29 (zcC C)) dX7_wordOf_64 ?_
    have ew : wordIx a0 = 8 := by rw [h4]; decide
    rw [ew]
    exact r_retR C (Or.inl ⟨_, rfl⟩) hw dX7_wordOf_66 hf
  by_cases h5 : a0 = 5
  · refine lv_tableIn (tgt := 67) C.1.1 C.1.2.1 dX7_wordOf_1 (by rw [h5]; decide) (by rw [h5]; decide) (by rw [h5]; rfl) (by decide) ?_
    refine va_ldcS C.1.1 C.1.2.1 C.1.2.2.2.1 (zc_RX7_31 (zcC C)) dX7_wordOf_67 ?_
    have ew : wordIx a0 = 9 := by rw [h5]; decide
    rw [ew]
    exact r_retR C (Or.inl ⟨_, rfl⟩) hw dX7_wordOf_69 hf
  by_cases h6 : a0 = 6
  · refine lv_tableIn (tgt := 70) C.1.1 C.1.2.1 dX7_wordOf_1 (by rw [h6]; decide) (by rw [h6]; decide) (by rw [h6]; rfl) (by decide) ?_
    refine va_ldcS C.1.1 C.1.2.1 C.1.2.2.2.1 (zc_RX7_33 (zcC C)) dX7_wordOf_70 ?_
    have ew : wordIx a0 = 10 := by rw [h6]; decide
    rw [ew]
    exact r_retR C (Or.inl ⟨_, rfl⟩) hw dX7_wordOf_72 hf
  by_cases h7 : a0 = 7
  · refine lv_tableIn (tgt := 73) C.1.1 C.1.2.1 dX7_wordOf_1 (by rw [h7]; decide) (by rw [h7]; decide) (by rw [h7]; rfl) (by decide) ?_
    refine va_ldcS C.1.1 C.1.2.1 C.1.2.2.2.1 (zc_RX7_35 (zcC C)) dX7_wordOf_73 ?_
    have ew : wordIx a0 = 11 := by rw [h7]; decide
    rw [ew]
    exact r_retR C (Or.inl ⟨_, rfl⟩) hw dX7_wordOf_75 hf
  by_cases h8 : a0 = 8
  · refine lv_tableIn (tgt := 76) C.1.1 C.1.2.1 dX7_wordOf_1 (by rw [h8]; decide) (by rw [h8]; decide) (by rw [h8]; rfl) (by decide) ?_
    refine va_ldcS C.1.1 C.1.2.1 C.1.2.2.2.1 (zc_RX7_37 (zcC C)) dX7_wordOf_76 ?_
    have ew : wordIx a0 = 1 := by rw [h8]; decide
    rw [ew]
    exact r_retR C (Or.inl ⟨_, rfl⟩) hw dX7_wordOf_78 hf
  refine lv_tableOut (tgt := 79) C.1.1 C.1.2.1 dX7_wordOf_1 (by rw [sw_in hsw]; omega) (by decide) ?_
  refine va_ldcS C.1.1 C.1.2.1 C.1.2.2.2.1 (zc_RX7_39 (zcC C)) dX7_wordOf_79 ?_
  have ew : wordIx a0 = 12 := by simp [wordIx, h0, h1, h2, h3, h4, h5, h6, h7, h8]
  rw [ew]
  exact r_retR C (Or.inl ⟨_, rfl⟩) hw dX7_wordOf_81 hf
