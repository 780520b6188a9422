/-! THE LAW'S START: both objects are made, then the loop -/
theorem arr_entry {args : Array Value} {s : State} {ty : FieldType} (h : (Cond.arrayClass ty).before args s = true) (hty : ∀ C, ty ≠ .object C) : ∃ cA, ArrOfT s cA ty ∧ va_RA s cA ty := by
  obtain ⟨cA, kA, comp, h1, h2, h3⟩ := Cond.arrayClass_spec (args := args) (first := s) (s := s) (o := none) (idx := []) h
  refine ⟨cA, fun n z => ⟨fun k h => ?_, kA, h2, comp, h3⟩, ?_⟩
  · cases h
  · cases ty <;> first | exact h1 | exact absurd rfl (hty _)
theorem arrO_entry {args : Array Value} {s : State} {C : String} (h : (Cond.arrayOver (.object C)).before args s = true) : ∃ cA, ArrOfT s cA (.object C) ∧ va_RA s cA (.object C) := by
  obtain ⟨comp, cA, kA, h1, -, h2, h3, h4⟩ := Cond.arrayOver_spec (args := args) (first := s) (s := s) (o := none) (idx := []) h
  refine ⟨cA, fun n z => ⟨fun k h => ?_, kA, h2, comp, h3⟩, kA, comp, h2, h3, h1, h4⟩
  cases h
set_option maxRecDepth 100000 in
set_option maxHeartbeats 4000000 in
theorem xk_entry {args : Array Value} {s : State} (hU : ∀ w ∈ UW, w.before args s = true) (hts : ∀ w ∈ lw_tbl, w.before args s = true) : ∃ (D : va_G) (cA : Nat → ClassId), va_K D vwCl (tysA cA) s := by
  obtain ⟨c0, i0, k0⟩ := u_known (C := RX0) (T := TX0) (N := 3) (n := 3) hU cO0.2.1 (hU _ tw1_80)
  obtain ⟨c1, i1, k1⟩ := u_known (C := RX1) (T := TX1) (N := 1) (n := 1) hU cO1.2.1 (hU _ tw2_21)
  obtain ⟨c2, i2, k2⟩ := u_known (C := RX2) (T := TX2) (N := 3) (n := 3) hU cO2.2.1 (hU _ tw1_194)
  obtain ⟨c3, i3, k3⟩ := u_known (C := RX3) (T := TX3) (N := 6) (n := 6) hU cO3.2.1 (hU _ tw1_161)
  obtain ⟨c4, i4, k4⟩ := u_known (C := RX4) (T := TX4) (N := 5) (n := 5) hU cO4.2.1 (hU _ tw1_214)
  obtain ⟨c5, i5, k5⟩ := u_known (C := RX5) (T := TX5) (N := 15) (n := 15) hU cO5.2.1 (hU _ tw1_106)
  obtain ⟨c6, i6, k6⟩ := u_known (C := RX6) (T := TX6) (N := 8) (n := 8) hU cO6.2.1 (hU _ tw1_32)
  obtain ⟨c7, i7, k7⟩ := u_known (C := RX7) (T := TX7) (N := 4) (n := 4) hU cO7.2.1 (hU _ tw1_237)
  obtain ⟨c8, i8, k8⟩ := u_known (C := RX8) (T := TX8) (N := 2) (n := 2) hU cO8.2.1 (hU _ tw2_32)
  obtain ⟨c9, i9, k9⟩ := u_known (C := RX9) (T := TX9) (N := 2) (n := 2) hU cO9.2.1 (hU _ tw1_38)
  obtain ⟨c10, i10, k10⟩ := u_known (C := RX10) (T := TX10) (N := 19) (n := 19) hU cO10.2.1 (hU _ tw1_24)
  obtain ⟨c11, i11, k11⟩ := u_known (C := RX11) (T := TX11) (N := 52) (n := 52) hU cO11.2.1 (hU _ tw5_139)
  obtain ⟨a0, g0⟩ := arr_entry (ty := .int) (hU _ tw1_104) (fun C h => by cases h)
  obtain ⟨a1, g1⟩ := arr_entry (ty := .char) (hU _ tw1_52) (fun C h => by cases h)
  obtain ⟨a2, g2⟩ := arr_entry (ty := .long) (hU _ tw6_61) (fun C h => by cases h)
  obtain ⟨a3, g3⟩ := arrO_entry (hts _ (tt_1 (List.mem_of_getElem? (i := 236) rfl)))
  obtain ⟨a4, g4⟩ := arrO_entry (hts _ (tt_1 (List.mem_of_getElem? (i := 200) rfl)))
  refine ⟨(fun k => [c0, c1, c2, c3, c4, c5, c6, c7, c8, c9, c10, c11].getD k c0, fun k => [i0, i1, i2, i3, i4, i5, i6, i7, i8, i9, i10, i11].getD k i0), fun k => [a0, a1, a2, a3, a4].getD k a0, fun k q hq => ?_, fun k q hq => ?_⟩
  · have hk : k < 12 := (List.getElem?_eq_some_iff.mp hq).1
    rcases (show k = 0 ∨ k = 1 ∨ k = 2 ∨ k = 3 ∨ k = 4 ∨ k = 5 ∨ k = 6 ∨ k = 7 ∨ k = 8 ∨ k = 9 ∨ k = 10 ∨ k = 11 by omega) with rfl | rfl | rfl | rfl | rfl | rfl | rfl | rfl | rfl | rfl | rfl | rfl
    · cases hq; exact k0
    · cases hq; exact k1
    · cases hq; exact k2
    · cases hq; exact k3
    · cases hq; exact k4
    · cases hq; exact k5
    · cases hq; exact k6
    · cases hq; exact k7
    · cases hq; exact k8
    · cases hq; exact k9
    · cases hq; exact k10
    · cases hq; exact k11
  · have hk : k < 5 := (List.getElem?_eq_some_iff.mp hq).1
    rcases (show k = 0 ∨ k = 1 ∨ k = 2 ∨ k = 3 ∨ k = 4 by omega) with rfl | rfl | rfl | rfl | rfl
    · cases hq; exact g0
    · cases hq; exact g1
    · cases hq; exact g2
    · cases hq; exact g3
    · cases hq; exact g4
/-- refs of a shape stay below n -/
def okSh (n : Nat) (sh : Sh) : Bool := match sh with
  | .inl (_, fl) => fl.all (fun f => decide (f.2 < n))
  | .inr (t, len, el) => decide (t < 3) || (List.range len).all (fun j => decide (el j < n))
theorem okC : ∀ i, i < nC → okSh nC (shC i) = true := by decide +kernel
theorem okM : ∀ i, i < nM → okSh nM (shM i) = true := by decide +kernel
theorem fvs_ad {ad ad' : Nat → Nat} {n : Nat} (h : ∀ i, i < n → ad i = ad' i) {S : S2} {i : Nat} : ∀ (fl : List (Nat × Nat)) (k : Nat), (∀ f ∈ fl, f.2 < n) → fvs ad S i k fl = fvs ad' S i k fl
  | [], _, _ => rfl
  | f :: fl, k, hf => by
    rw [fvs, fvs, fvs_ad h fl (k + 1) (fun g hg => hf g (List.mem_cons_of_mem _ hg))]
    congr 1
    have h1 := hf f List.mem_cons_self
    obtain ⟨t, j⟩ := f
    match t with
    | 0 => rfl
    | 1 => rfl
    | t + 2 => show Value.ref (ad j) = Value.ref (ad' j); rw [h j h1]
theorem wld_ad {D : va_G} {cl : List vw_C} {cA : Nat → ClassId} {ad ad' : Nat → Nat} {sh : Nat → Sh} {n : Nat} {S : S2} {H : Heap} (h : ∀ i, i < n → ad i = ad' i) (hok : ∀ i, i < n → okSh n (sh i) = true) (hP : va_P D cl (wld cA ad sh n S) H) : va_P D cl (wld cA ad' sh n S) H := by
  intro k x hx
  have h1 : k < n := by
    have := (List.getElem?_eq_some_iff.mp hx).1; rwa [wld_len] at this
  rw [wld_get h1] at hx
  cases hx
  have h2 := hP k _ (wld_get h1)
  rw [h k h1] at h2
  have h3 := hok k h1
  revert h2 h3
  generalize sh k = q
  intro h2 h3
  match q, h2, h3 with
  | .inl (ci, fl), h2, h3 =>
    have h4 : ∀ f ∈ fl, f.2 < n := fun f hf => by
      have := List.all_eq_true.mp h3 f hf
      simpa using this
    have e : cel cA ad S k (.inl (ci, fl)) = cel cA ad' S k (.inl (ci, fl)) := by
      show Sum.inr (ci, fvs ad S k 0 fl) = Sum.inr (ci, fvs ad' S k 0 fl)
      rw [fvs_ad h fl 0 h4]
    rw [← e]; exact h2
  | .inr (0, len, el), h2, h3 => exact h2
  | .inr (1, len, el), h2, h3 => exact h2
  | .inr (2, len, el), h2, h3 => exact h2
  | .inr (t + 3, len, el), h2, h3 =>
    refine at_arrQ h2 (fun j hj => ?_)
    have h4 : el j < n := by
      have h5 : ((List.range len).all (fun j => decide (el j < n))) = true := by
        have h6 : (decide (t + 3 < 3) || (List.range len).all (fun j => decide (el j < n))) = true := h3
        rw [show decide (t + 3 < 3) = false from decide_eq_false (by omega), Bool.false_or] at h6
        exact h6
      have := List.all_eq_true.mp h5 j (List.mem_range.mpr hj)
      simpa using this
    rw [h _ h4]
theorem wld_z (cA : Nat → ClassId) (ad : Nat → Nat) (sh : Nat → Sh) (n : Nat) : wld cA ad sh n S0 = (List.range n).map (fun i => (ad i, celz cA ad (sh i))) := by
  unfold wld
  exact List.map_congr_left (fun i _ => by rw [cel_z])
theorem fin11_wld (X : XT) (a : Nat) (u : Nat → Nat) : Fin11 X a u = wld X.2.1 (fun i => if i = 0 then a else u (i - 1)) shM nM S0 := by
  rw [wld_z]
  rfl
section LSTART
variable {p : Program} {l : Launch} {e : Env} {R : Room} {s : State} {m : MethodId} {args : Array Value} {below : List Frame} {meth : Method} {c : Code} {H : Heap} {locs : List Loc} {cells slots : Nat} {Q : State → Prop}
variable {cc : ByteArray} {pc nL : Nat} {own : String} {ls : Array Slot} {rest : List Value} {X : XT} {V : va_W} {a : Nat}
theorem g_callM (CF : CallFix p m c cc nL s args UW own) (hK : XK X s) (hNN : NN s) {q ci idx maxL kc ns : Nat} {fs0 : List Value} {Fin : XT → Nat → (Nat → Nat) → va_W} {y : MethodName} {bytes : ByteArray} {rm : Room} (hw : BW X a s.heap.size s.heap (V ++ [(q, .inr (ci, fs0))]) H locs) (hN : NC l X y bytes maxL rm ci fs0 Fin kc ns) (w1 : Cond.methodLink own idx y ∈ UW)
    (w2 : Cond.instanceMethod y ∈ UW) (w4 : Cond.initialized y.cls ∈ UW) (w5 : Cond.code y bytes maxL none ∈ UW) (hd : y.cls ≠ "java/lang/invoke/MethodHandle" ∧ y.cls ≠ "java/lang/invoke/VarHandle" ∧ (parseMethodDescriptor y.desc).map (fun d => d.parameters.length) = some 0) (hy : y.name = "<init>") (hR : (rm.cells = kc ∧ rm.slots = ns) ∧ rm.frames + 1 ≤ R.frames ∧ 8 + (maxL + 11) + rm.locals ≤ R.locals) (hsize : ls.size = nL) (hW : (rest.map fun v => v.category).sum ≤ 8) (hdg : decode cc pc = .ok (.invokespecial idx, 3)) (hcells : cells + kc ≤ R.cells) (hslots : slots + ns ≤ R.slots)
    (kk : ∀ (u : Nat → Nat) (H1 : Heap) (locs1 : List Loc), BW X a s.heap.size s.heap (V ++ Fin X q u) H1 locs1 → W p l e R s m args below meth c H1 locs1 (cells + kc) (slots + ns) Q (F0 m (pc + 3) ls rest)) : W p l e R s m args below meth c H locs cells slots Q (F0 m pc ls (.ref q :: rest)) := by
  have hts := CF.2.2.2.2
  have gq : (V ++ [(q, (Sum.inr (ci, fs0) : va_E))])[V.length]? = some (q, .inr (ci, fs0)) := by simp
  have hPq : va_P X.1 vwCl [(q, .inr (ci, fs0))] H := P_right hw.1
  have hAq : AN a s.heap.size q := hw.2.1.2 _ _ gq
  have hsz := hw.2.2.1
  have hsub : ∀ r, AN q H.size r → AN a s.heap.size r := fun r h => by
    rcases h with h | h
    · rw [h]; exact hAq
    · exact Or.inr (Nat.le_trans hsz h)
  refine va_callv (va_runI (As := []) (rest := rest) CF (hN q H.size) ⟨callB_of 0 hts (uw_ws w5) rfl hR.1.1 hR.1.2 (hts _ w4) (hts _ w1) hd hR.2, hy, hts _ w2⟩ ⟨preN_blind, fun U hU hWU => ⟨rfl, by rw [hU], by rw [hU]; exact hPq, va_K.moved hWU.alike hK, nn_warm hWU hNN⟩⟩ rfl rfl hsize rfl (lv_room hW) hdg ⟨hcells, hslots⟩) hw.2.2 (fun r _ h => hsub r h) hsub (fun u t H1 locs1 ht hvm hp hB hz1 hk1 hS1 => ?_)
  obtain ⟨hP1, hD1⟩ := hB
  rw [ht] at hP1
  obtain ⟨g1, g2⟩ := BW_join hw.1 hw.2.1 hsz hk1 hP1 hD1
  exact kk u H1 locs1 ⟨g1, g2, hS1⟩
end LSTART
set_option maxRecDepth 100000 in
set_option maxHeartbeats 4000000 in
theorem law_start {Rel : Nat → S2 → S2 → Prop} (O : Ops Rel) (h0 : Rel 0 S0 S0) {p : Program} {e : Env} {s : State} {m : MethodId} {below : List Frame} {meth : Method} {c : Code} (l : Launch) (hlt : l.stackTraces = false) {b L : Nat} {xs : Nat → Int32} (hL : L ≤ 3072) (C0 : lw_At p s m meth c b L xs) : W p l e room_1 s m #[Value.ref b] below meth c s.heap [] 0 0 (lw_Z below #[Value.ref b] s) (entryFrame m ([Value.ref b] : List Value).toArray 7) := by
  obtain ⟨hx, hb, hret, hml, hown, htbl, hX, hbl, hlocks, hgv⟩ := id C0
  have hU : ∀ w ∈ UW, w.before #[Value.ref b] s = true := fun w h => htbl w (uw_tbl w h)
  obtain ⟨D, cA, hK⟩ := xk_entry hU htbl
  obtain ⟨adS, hzc⟩ := zc_entry hgv htbl
  have hzm := zm_entry hgv htbl
  have hzx := zx_entry hgv htbl
  have hNN : NN s := nn_entry htbl
  obtain ⟨X0, hX0⟩ : ∃ X0 : XT, X0 = (D, cA, adS) := ⟨_, rfl⟩
  have CF : CallFix p m c code 7 s #[Value.ref b] UW RL := ⟨hx, hb, hml, hown, hU⟩
  have hK : XK X0 s := by rw [hX0]; exact hK
  have hw : BW X0 s.heap.size s.heap.size s.heap [] s.heap [] := ⟨fun k q h => by simp at h, ⟨fun i j p q h => by simp at h, fun k q h => by simp at h⟩, va_S.rf⟩
  have hl := lv_entry ([.ref b]) (n := 7) (Nat.le_of_ble_eq_true rfl)
  rw [lg_entry_eq]
  generalize (lg_sl ([.ref b]) ++ List.replicate (7 - (lg_sl ([.ref b])).length) Slot.unset).toArray = ls at hl ⊢
  have hl : lv_has ls 7 [(0, .ref b)] := hl
  refine va_new (ci := 10) (fs := [.null, .null, .null, .null, .null, .null, .null, .null, .int 0, .int 0, .int 0, .null, .null, .null, .null, .null, .null, .null, .null]) hx hb hU cO10.2.1 tyX10 cO10.2.2.1 hown (hU _ tw1_23) (hU _ tw1_24) (hU _ tw1_1) hK hw.1 hw.2.1 hw.2.2 (fun q h => Or.inr h) cO10.1 (fun j hj => by rcases (show j = 0 ∨ j = 1 ∨ j = 2 ∨ j = 3 ∨ j = 4 ∨ j = 5 ∨ j = 6 ∨ j = 7 ∨ j = 8 ∨ j = 9 ∨ j = 10 ∨ j = 11 ∨ j = 12 ∨ j = 13 ∨ j = 14 ∨ j = 15 ∨ j = 16 ∨ j = 17 ∨ j = 18 by omega) with rfl | rfl | rfl | rfl | rfl | rfl | rfl | rfl | rfl | rfl | rfl | rfl | rfl | rfl | rfl | rfl | rfl | rfl | rfl <;> rfl) (Nat.le_of_ble_eq_true rfl) (Nat.le_of_ble_eq_true rfl) dL_law_0 (fun qx H hP hD hS => ?_)
  have hw : BW X0 s.heap.size s.heap.size s.heap ([] ++ [(qx, .inr (10, [.null, .null, .null, .null, .null, .null, .null, .null, .int 0, .int 0, .int 0, .null, .null, .null, .null, .null, .null, .null, .null]))]) H [] := ⟨hP, hD, hS⟩
  refine W.widen (k := 1) (n := 19) (Nat.le_of_ble_eq_true rfl) (Nat.le_of_ble_eq_true rfl) ?_
  refine lv_dup hx hb dL_law_3 rfl ?_
  refine g_callM (V := []) (rest := [.ref qx]) CF hK hNN hw (k_X10 l X0) tw1_25 tw1_26 tw1_1 tw1_27 hd_X10_init rfl ⟨⟨rfl, rfl⟩, (Nat.le_of_ble_eq_true rfl), (Nat.le_of_ble_eq_true rfl)⟩ hl.1 (Nat.le_of_ble_eq_true rfl) dL_law_4 (Nat.le_of_ble_eq_true rfl) (Nat.le_of_ble_eq_true rfl) (fun u H locs hw => ?_)
  refine W.widen (k := 162) (n := 4929) (Nat.le_of_ble_eq_true rfl) (Nat.le_of_ble_eq_true rfl) ?_
  refine lv_astore_n (lv' := [(1, .ref qx), (0, .ref b)]) hx hb dL_law_7 rfl hl (by decide) rfl (fun ls hl => ?_)
  refine va_new (ci := 11) (fs := [.int 0, .null, .int 0, .int 0, .int 0, .int 0, .int 0, .int 0, .int 0, .long 0, .int 0, .null, .null, .null, .null, .int 0, .int 0, .int 0, .int 0, .null, .null, .int 0, .null, .null, .null, .null, .null, .int 0, .int 0, .int 0, .null, .null, .null, .null, .null, .int 0, .null, .null, .int 0, .null, .null, .int 0, .null, .null, .int 0, .long 0, .null, .int 0, .null, .null, .null, .int 0]) hx hb hU cO11.2.1 tyX11 cO11.2.2.1 hown (hU _ tw5_138) (hU _ tw5_139) (hU _ tw1_12) hK hw.1 hw.2.1 hw.2.2 (fun q h => Or.inr h) cO11.1 (fun j hj => by rcases (show j = 0 ∨ j = 1 ∨ j = 2 ∨ j = 3 ∨ j = 4 ∨ j = 5 ∨ j = 6 ∨ j = 7 ∨ j = 8 ∨ j = 9 ∨ j = 10 ∨ j = 11 ∨ j = 12 ∨ j = 13 ∨ j = 14 ∨ j = 15 ∨ j = 16 ∨ j = 17 ∨ j = 18 ∨ j = 19 ∨ j = 20 ∨ j = 21 ∨ j = 22 ∨ j = 23 ∨ j = 24 ∨ j = 25 ∨ j = 26 ∨ j = 27 ∨ j = 28 ∨ j = 29 ∨ j = 30 ∨ j = 31 ∨ j = 32 ∨ j = 33 ∨ j = 34 ∨ j = 35 ∨ j = 36 ∨ j = 37 ∨ j = 38 ∨ j = 39 ∨ j = 40 ∨ j = 41 ∨ j = 42 ∨ j = 43 ∨ j = 44 ∨ j = 45 ∨ j = 46 ∨ j = 47 ∨ j = 48 ∨ j = 49 ∨ j = 50 ∨ j = 51 by omega) with rfl | rfl | rfl | rfl | rfl | rfl | rfl | rfl | rfl | rfl | rfl | rfl | rfl | rfl | rfl | rfl | rfl | rfl | rfl | rfl | rfl | rfl | rfl | rfl | rfl | rfl | rfl | rfl | rfl | rfl | rfl | rfl | rfl | rfl | rfl | rfl | rfl | rfl | rfl | rfl | rfl | rfl | rfl | rfl | rfl | rfl | rfl | rfl | rfl | rfl | rfl | rfl <;> rfl) (Nat.le_of_ble_eq_true rfl) (Nat.le_of_ble_eq_true rfl) dL_law_8 (fun qm H hP hD hS => ?_)
  have hw : BW X0 s.heap.size s.heap.size s.heap (([] ++ Fin10 X0 qx u) ++ [(qm, .inr (11, [.int 0, .null, .int 0, .int 0, .int 0, .int 0, .int 0, .int 0, .int 0, .long 0, .int 0, .null, .null, .null, .null, .int 0, .int 0, .int 0, .int 0, .null, .null, .int 0, .null, .null, .null, .null, .null, .int 0, .int 0, .int 0, .null, .null, .null, .null, .null, .int 0, .null, .null, .int 0, .null, .null, .int 0, .null, .null, .int 0, .long 0, .null, .int 0, .null, .null, .null, .int 0]))]) H locs := ⟨hP, hD, hS⟩
  refine W.widen (k := 163) (n := 4981) (Nat.le_of_ble_eq_true rfl) (Nat.le_of_ble_eq_true rfl) ?_
  refine lv_dup hx hb dL_law_11 rfl ?_
  refine g_callM (V := [] ++ Fin10 X0 qx u) (rest := [.ref qm]) CF hK hNN hw (k_X11 l X0) tw5_140 tw5_141 tw1_12 tw5_142 hd_X11_init rfl ⟨⟨rfl, rfl⟩, (Nat.le_of_ble_eq_true rfl), (Nat.le_of_ble_eq_true rfl)⟩ hl.1 (Nat.le_of_ble_eq_true rfl) dL_law_12 (Nat.le_of_ble_eq_true rfl) (Nat.le_of_ble_eq_true rfl) (fun v H locs hw => ?_)
  refine W.widen (k := 190) (n := 15944) (Nat.le_of_ble_eq_true rfl) (Nat.le_of_ble_eq_true rfl) ?_
  refine lv_astore_n (lv' := [(2, .ref qm), (1, .ref qx), (0, .ref b)]) hx hb dL_law_15 rfl hl (by decide) rfl (fun ls hl => ?_)
  refine lv_iconst (v := 1) hx hb dL_law_16 (by decide) ?_
  refine va_newa (atype := .long) hx hb (hU _ tw6_61) rfl hK hw.1 hw.2.1 hw.2.2 (fun q h => Or.inr h) (N' := 1) (a0 := (1, .inr (.inl (fun _ => 0)))) (fun _ => rfl) (by decide) (by decide) (Nat.le_of_ble_eq_true rfl) (Nat.le_of_ble_eq_true rfl) (Nat.le_of_ble_eq_true rfl) dL_law_17 (fun ao cA1 H hK1 hP hD hS => ?_)
  have eA := RA_long hK (K_last hK1)
  subst eA
  refine W.widen (k := 191) (n := 15945) (Nat.le_of_ble_eq_true rfl) (Nat.le_of_ble_eq_true rfl) ?_
  refine lv_astore_n (lv' := [(3, .ref ao), (2, .ref qm), (1, .ref qx), (0, .ref b)]) hx hb dL_law_19 rfl hl (by decide) rfl (fun ls hl => ?_)
  refine lv_iconst (v := iz ((6 * 0 : Nat) : Int)) hx hb dL_law_20 (by decide) ?_
  refine lv_istore (lv' := [(4, .int (iz ((6 * 0 : Nat) : Int))), (3, .ref ao), (2, .ref qm), (1, .ref qx), (0, .ref b)]) hx hb dL_law_21 hl (by decide) rfl (fun ls hl => ?_)
  have hl := lv_sub (l' := [(4, .int (iz ((6 * 0 : Nat) : Int))), (0, .ref b), (1, .ref qx), (2, .ref qm), (3, .ref ao)]) hl [0, 4, 3, 2, 1] rfl
  -- both sides
  obtain ⟨adX, hadX⟩ : ∃ ad : Nat → Nat, ad = fun i => if i < 1000 then (if i = 0 then qx else u i) else adS i := ⟨_, rfl⟩
  obtain ⟨adM, hadM⟩ : ∃ ad : Nat → Nat, ad = fun i => if i = 0 then qm else v (i - 1) := ⟨_, rfl⟩
  obtain ⟨X, hX1⟩ : ∃ X : XT, X = (D, cA, adX) := ⟨_, rfl⟩
  obtain ⟨XM, hM1⟩ : ∃ X : XT, X = (D, cA, adM) := ⟨_, rfl⟩
  have hx0 : X.2.2 0 = qx := by rw [hX1, hadX]; rfl
  have hm0 : XM.2.2 0 = qm := by rw [hM1, hadM]; rfl
  rw [List.nil_append, fin11_wld] at hP hD
  unfold Fin10 at hP hD
  have e1 : ∀ i, i < nC → (fun i => if i = 0 then qx else u i) i = X.2.2 i := fun i hi => by
    rw [hX1, hadX]; show _ = (if i < 1000 then (if i = 0 then qx else u i) else adS i); rw [if_pos (by show i < 1000; have : i < 162 := hi; omega)]
  have e2 : ∀ i, i < nM → (fun i => if i = 0 then qm else v (i - 1)) i = XM.2.2 i := fun i hi => by rw [hM1, hadM]
  have d1 : X0.1 = D := by rw [hX0]
  have d2 : X0.2.1 = cA := by rw [hX0]
  rw [d1, d2] at hP
  rw [d2] at hD
  have hPc : va_P X.1 vwCl (XW X shC nC S0) H := by
    have := wld_ad (ad' := X.2.2) e1 okC (P_left (P_left hP))
    rw [XW, hX1] at *
    exact this
  have hPm : va_P XM.1 vwCl (XW XM shM nM S0) H := by
    have := wld_ad (ad' := XM.2.2) e2 okM (P_right (P_left hP))
    rw [XW, hM1] at *
    exact this
  have hPo : va_P X.1 vwCl (oW X ao (fun _ => 0)) H := by
    have := P_right hP
    rw [hX1]
    exact this
  -- the cells are apart
  have gC : ∀ i, i < nC → ∃ w, ((wld cA (fun i => if i = 0 then qx else u i) shC nC S0 ++ wld cA (fun i => if i = 0 then qm else v (i - 1)) shM nM S0) ++ [(ao, (Sum.inl (cA 2, 1, .inr (.inl (fun _ => 0))) : va_E))])[i]? = some (X.2.2 i, w) := fun i hi => ⟨_, by
    rw [List.getElem?_append_left (by rw [List.length_append, wld_len, wld_len]; have : i < 162 := hi; show i < 162 + 28; omega), List.getElem?_append_left (by rw [wld_len]; exact hi), wld_get hi]; exact congrArg some (Prod.ext (e1 i hi) rfl)⟩
  have gM : ∀ i, i < nM → ∃ w, ((wld cA (fun i => if i = 0 then qx else u i) shC nC S0 ++ wld cA (fun i => if i = 0 then qm else v (i - 1)) shM nM S0) ++ [(ao, (Sum.inl (cA 2, 1, .inr (.inl (fun _ => 0))) : va_E))])[162 + i]? = some (XM.2.2 i, w) := fun i hi => ⟨_, by
    rw [List.getElem?_append_left (by rw [List.length_append, wld_len, wld_len]; have : i < 28 := hi; show 162 + i < 162 + 28; omega), List.getElem?_append_right (by rw [wld_len]; show 162 ≤ 162 + i; omega), wld_len, show 162 + i - nC = i by show 162 + i - 162 = i; omega, wld_get hi]; exact congrArg some (Prod.ext (e2 i hi) rfl)⟩
  have gO : ((wld cA (fun i => if i = 0 then qx else u i) shC nC S0 ++ wld cA (fun i => if i = 0 then qm else v (i - 1)) shM nM S0) ++ [(ao, (Sum.inl (cA 2, 1, .inr (.inl (fun _ => 0))) : va_E))])[190]? = some (ao, (Sum.inl (cA 2, 1, .inr (.inl (fun _ => 0))) : va_E)) := by
    rw [List.getElem?_append_right (by rw [List.length_append, wld_len, wld_len]; show 162 + 28 ≤ 190; omega), List.length_append, wld_len, wld_len]; rfl
  have hsub : ∀ q, AN s.heap.size s.heap.size q → s.heap.size ≤ q := fun q h => h.elim (fun e => by rw [e]; exact Nat.le_refl _) id
  have hLD : LD X XM ao s.heap.size := by
    refine ⟨fun i hi => ?_, fun i hi => ?_, ?_, fun i j hi hj e => ?_, fun i hi e => ?_, fun i hi e => ?_⟩
    · obtain ⟨w, g⟩ := gC i hi; exact hsub _ (hD.2 _ _ g)
    · obtain ⟨w, g⟩ := gM i hi; exact hsub _ (hD.2 _ _ g)
    · exact hsub _ (hD.2 _ _ gO)
    · obtain ⟨w1, g1⟩ := gC i hi; obtain ⟨w2, g2⟩ := gM j hj
      have := hD.1 _ _ _ _ g1 g2 e
      have : i < 162 := hi
      omega
    · obtain ⟨w1, g1⟩ := gC i hi
      have := hD.1 _ _ _ _ g1 gO e
      have : i < 162 := hi
      omega
    · obtain ⟨w1, g1⟩ := gM i hi
      have := hD.1 _ _ _ _ g1 gO e
      have : i < 28 := hi
      omega
  have hinj : XInj X nC := fun i j hi hj e => by
    obtain ⟨w1, g1⟩ := gC i hi; obtain ⟨w2, g2⟩ := gC j hj
    exact hD.1 _ _ _ _ g1 g2 e
  have hinjM : XInj XM nM := fun i j hi hj e => by
    obtain ⟨w1, g1⟩ := gM i hi; obtain ⟨w2, g2⟩ := gM j hj
    have := hD.1 _ _ _ _ g1 g2 e
    omega
  have hKX : XK X s := by rw [hX1]; rw [hX0] at hK; exact hK
  have hKM : XK XM s := by rw [hM1]; rw [hX0] at hK; exact hK
  have subC : ∀ q, XA X nC s.heap.size q → s.heap.size ≤ q := fun q h => by
    rcases h with ⟨i, hi, e⟩ | h
    · rw [e]; exact hLD.1 i hi
    · exact h
  have subM : ∀ q, XA XM nM s.heap.size q → s.heap.size ≤ q := fun q h => by
    rcases h with ⟨i, hi, e⟩ | h
    · rw [e]; exact hLD.2.1 i hi
    · exact h
  have hzcX : Zc X (XA X nC s.heap.size) s s.heap := (zc_ok X).2.2.1 _ _ _ _ subC (hzc X (fun i hi => by rw [hX1, hadX]; show (if i < 1000 then (if i = 0 then qx else u i) else adS i) = adS i; rw [if_neg (by omega)]))
  have hzmX : Zm XM (XA XM nM s.heap.size) s s.heap := (zm_ok XM).2.2.1 _ _ _ _ subM (hzm XM)
  have G : LawC p l s m meth c b L xs X XM ao := ⟨C0, ⟨CF, hlocks, hret, hinj, hKX, hzcX, zc_ok X⟩, ⟨CF, hlocks, hret, hinjM, hKM, hzmX, zm_ok XM⟩, zx_narrow subC hzx, hLD, hlt, hL⟩
  rw [← hx0, ← hm0] at hl
  exact law_loop G O 520 0 _ _ (by omega) (by omega) (by omega) (by omega) S0 S0 (fun _ => 0) H locs ls h0 ⟨hPc, hPm, hPo, S_mono hS hsub⟩ hl
