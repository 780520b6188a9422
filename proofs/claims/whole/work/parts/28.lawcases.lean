/-! THE LAW, case by case. Rel holds the class side's cells and the reference's together; an Op_ says that one call keeps it, and both answer alike. -/
def LawC (p : Program) (l : Launch) (s : State) (m : MethodId) (meth : Method) (c : Code) (b L : Nat) (xs : Nat → Int32) (X XM : XT) (ao : Nat) : Prop :=
  lw_At p s m meth c b L xs ∧ CX p s m #[Value.ref b] meth c code 7 RL ret X nC (Zc X) ∧ CX p s m #[Value.ref b] meth c code 7 RL ret XM nM (Zm XM) ∧ ZX (XA X nC s.heap.size) s s.heap ∧ LD X XM ao s.heap.size ∧ l.stackTraces = false ∧ L ≤ 3072
abbrev lvL (t b x0 m0 ao : Nat) : List (Nat × Value) := [(4, .int (iz ((6 * t : Nat) : Int))), (0, .ref b), (1, .ref x0), (2, .ref m0), (3, .ref ao)]
/-- what is left of the law behind a case -/
def LTail (p : Program) (l : Launch) (e : Env) (s : State) (m : MethodId) (below : List Frame) (meth : Method) (c : Code) (b : Nat) (X XM : XT) (ao : Nat) (Rel : S2 → S2 → Prop) (t cells slots : Nat) : Prop :=
  ∀ (Sc Sm : S2) (fo : Nat → Int64) (H : Heap) (locs : List Loc) (ls : Array Slot), Rel Sc Sm → LH X XM ao s.heap.size s.heap Sc Sm fo H locs → lv_has ls 7 (lvL t b (X.2.2 0) (XM.2.2 0) ao) → W p l e room_1 s m #[Value.ref b] below meth c H locs cells slots (lw_Z below #[Value.ref b] s) (F0 m 1445 ls [])
def Op_feed (Rel Rel' : S2 → S2 → Prop) : Prop := ∀ Sc Sm : S2, Rel Sc Sm → ∀ (a1 : Int) (a2 : Int) (a3 : Int) (a4 : Int) (a5 : Int), inR a1 → inR a2 → inR a3 → inR a4 → inR a5 → ∃ (N M : Nat) (r : Int) (Sc1 Sm1 : S2), f_X10_feed N Sc a1 a2 a3 a4 a5 = some (r, Sc1) ∧ f_X11_feed M Sm a1 a2 a3 a4 a5 = some (r, Sm1) ∧ Rel' Sc1 Sm1
set_option maxRecDepth 100000 in
set_option maxHeartbeats 4000000 in
theorem lawc_0 {p : Program} {l : Launch} {e : Env} {s : State} {m : MethodId} {below : List Frame} {meth : Method} {c : Code} {b L : Nat} {xs : Nat → Int32} {X XM : XT} {ao : Nat} (G : LawC p l s m meth c b L xs X XM ao) {Rel Rel' : S2 → S2 → Prop} (op : Op_feed Rel Rel') {t cells slots : Nat} (ht : 6 * t + 6 ≤ L) (hc : cells + 1 ≤ 601024) (hs : slots + 6 ≤ 7293034) {Sc Sm : S2} {fo : Nat → Int64} {H : Heap} {locs : List Loc} {ls : Array Slot} (hr : Rel Sc Sm) (hw : LH X XM ao s.heap.size s.heap Sc Sm fo H locs) (hl : lv_has ls 7 (lvL t b (X.2.2 0) (XM.2.2 0) ao)) (tail : LTail p l e s m below meth c b X XM ao Rel' t (cells + 1) (slots + 6)) : W p l e room_1 s m #[Value.ref b] below meth c H locs cells slots (lw_Z below #[Value.ref b] s) (F0 m 224 ls []) := by
  obtain ⟨hx, hb, hret, hml, hown, htbl, hX, hbl, hlocks, hgv⟩ := id G.1
  obtain ⟨-, CC, CM, hzx, D, hlt, hL⟩ := G
  obtain ⟨N, M, r, Sc1, Sm1, f1, f2, hr1⟩ := op Sc Sm hr ((xs (6 * t + 1)).toInt) ((xs (6 * t + 2)).toInt) ((xs (6 * t + 3)).toInt) ((xs (6 * t + 4)).toInt) ((xs (6 * t + 5)).toInt) (inR_toInt _) (inR_toInt _) (inR_toInt _) (inR_toInt _) (inR_toInt _)
  refine lv_aload_n hx hb dL_law_224 rfl (lv_at hl 2 rfl) ?_
  refine l_ld hx hb hX hbl hw.2.2.2 hL ht (k := 1) (by decide) hl dL_law_225 dL_law_226 dL_law_228 dL_law_229 dL_law_230 ?_
  refine l_ld hx hb hX hbl hw.2.2.2 hL ht (k := 2) (by decide) hl dL_law_231 dL_law_232 dL_law_234 dL_law_235 dL_law_236 ?_
  refine l_ld hx hb hX hbl hw.2.2.2 hL ht (k := 3) (by decide) hl dL_law_237 dL_law_238 dL_law_240 dL_law_241 dL_law_242 ?_
  refine l_ld hx hb hX hbl hw.2.2.2 hL ht (k := 4) (by decide) hl dL_law_243 dL_law_244 dL_law_246 dL_law_247 dL_law_248 ?_
  refine l_ld hx hb hX hbl hw.2.2.2 hL ht (k := 5) (by decide) hl dL_law_249 dL_law_250 dL_law_252 dL_law_253 dL_law_254 ?_
  refine q_C (rest := []) (rm := rmX10_feed) (As := [.int (iz (xs (6 * t + 1)).toInt), .int (iz (xs (6 * t + 2)).toInt), .int (iz (xs (6 * t + 3)).toInt), .int (iz (xs (6 * t + 4)).toInt), .int (iz (xs (6 * t + 5)).toInt)]) (o := (r, Sc1)) CC D hw tw2_104 tw2_105 tw2_106 tw1_1 tw2_107 hd_X10_feed rfl ⟨⟨rfl, rfl⟩, (Nat.le_of_ble_eq_true rfl), (Nat.le_of_ble_eq_true rfl)⟩ hl.1 rfl (Nat.le_of_ble_eq_true rfl) dL_law_255 (by show cells ≤ 601024; omega) (by show slots ≤ 7293034; omega) (c_X10_feed l X CC.2.2.2.1 (zc_ok X) N Sc ((xs (6 * t + 1)).toInt) ((xs (6 * t + 2)).toInt) ((xs (6 * t + 3)).toInt) ((xs (6 * t + 4)).toInt) ((xs (6 * t + 5)).toInt) (r, Sc1) f1) (fun H locs hw => ?_)
  refine lv_aload_n hx hb dL_law_258 rfl (lv_at hl 3 rfl) ?_
  refine l_ld hx hb hX hbl hw.2.2.2 hL ht (k := 1) (by decide) hl dL_law_259 dL_law_260 dL_law_262 dL_law_263 dL_law_264 ?_
  refine l_ld hx hb hX hbl hw.2.2.2 hL ht (k := 2) (by decide) hl dL_law_265 dL_law_266 dL_law_268 dL_law_269 dL_law_270 ?_
  refine l_ld hx hb hX hbl hw.2.2.2 hL ht (k := 3) (by decide) hl dL_law_271 dL_law_272 dL_law_274 dL_law_275 dL_law_276 ?_
  refine l_ld hx hb hX hbl hw.2.2.2 hL ht (k := 4) (by decide) hl dL_law_277 dL_law_278 dL_law_280 dL_law_281 dL_law_282 ?_
  refine l_ld hx hb hX hbl hw.2.2.2 hL ht (k := 5) (by decide) hl dL_law_283 dL_law_284 dL_law_286 dL_law_287 dL_law_288 ?_
  refine q_M (rest := [.int (iz r)]) (rm := rmX11_feed) (As := [.int (iz (xs (6 * t + 1)).toInt), .int (iz (xs (6 * t + 2)).toInt), .int (iz (xs (6 * t + 3)).toInt), .int (iz (xs (6 * t + 4)).toInt), .int (iz (xs (6 * t + 5)).toInt)]) (o := (r, Sm1)) CM D hw tw6_66 tw6_67 tw6_68 tw1_12 tw6_69 hd_X11_feed rfl ⟨⟨rfl, rfl⟩, (Nat.le_of_ble_eq_true rfl), (Nat.le_of_ble_eq_true rfl)⟩ hl.1 rfl (Nat.le_of_ble_eq_true rfl) dL_law_289 (by show cells ≤ 601024; omega) (by show slots ≤ 7293034; omega) (c_X11_feed l XM CM.2.2.2.1 (zm_ok XM) M Sm ((xs (6 * t + 1)).toInt) ((xs (6 * t + 2)).toInt) ((xs (6 * t + 3)).toInt) ((xs (6 * t + 4)).toInt) ((xs (6 * t + 5)).toInt) (r, Sm1) f2) (fun H locs hw => ?_)
  refine lv_icmp_eq (tgt := 1445) hx hb dL_law_292 (by decide) (fun _ => ?_) (fun h => absurd rfl h)
  refine W.widen (k := cells + 1) (n := slots + 6) (by omega) (by omega) ?_
  exact tail Sc1 Sm1 fo H locs ls hr1 hw hl
def Op_end (Rel Rel' : S2 → S2 → Prop) : Prop := ∀ Sc Sm : S2, Rel Sc Sm → ∀ (a1 : Int), inR a1 → ∃ (N M : Nat) (r : Int) (Sc1 Sm1 : S2), f_X10_end N Sc a1 = some (r, Sc1) ∧ f_X11_end M Sm a1 = some (r, Sm1) ∧ Rel' Sc1 Sm1
set_option maxRecDepth 100000 in
set_option maxHeartbeats 4000000 in
theorem lawc_1 {p : Program} {l : Launch} {e : Env} {s : State} {m : MethodId} {below : List Frame} {meth : Method} {c : Code} {b L : Nat} {xs : Nat → Int32} {X XM : XT} {ao : Nat} (G : LawC p l s m meth c b L xs X XM ao) {Rel Rel' : S2 → S2 → Prop} (op : Op_end Rel Rel') {t cells slots : Nat} (ht : 6 * t + 6 ≤ L) (hc : cells + 1 ≤ 601024) (hs : slots + 6 ≤ 7293034) {Sc Sm : S2} {fo : Nat → Int64} {H : Heap} {locs : List Loc} {ls : Array Slot} (hr : Rel Sc Sm) (hw : LH X XM ao s.heap.size s.heap Sc Sm fo H locs) (hl : lv_has ls 7 (lvL t b (X.2.2 0) (XM.2.2 0) ao)) (tail : LTail p l e s m below meth c b X XM ao Rel' t (cells + 1) (slots + 6)) : W p l e room_1 s m #[Value.ref b] below meth c H locs cells slots (lw_Z below #[Value.ref b] s) (F0 m 297 ls []) := by
  obtain ⟨hx, hb, hret, hml, hown, htbl, hX, hbl, hlocks, hgv⟩ := id G.1
  obtain ⟨-, CC, CM, hzx, D, hlt, hL⟩ := G
  obtain ⟨N, M, r, Sc1, Sm1, f1, f2, hr1⟩ := op Sc Sm hr ((xs (6 * t + 1)).toInt) (inR_toInt _)
  refine lv_aload_n hx hb dL_law_297 rfl (lv_at hl 2 rfl) ?_
  refine l_ld hx hb hX hbl hw.2.2.2 hL ht (k := 1) (by decide) hl dL_law_298 dL_law_299 dL_law_301 dL_law_302 dL_law_303 ?_
  refine q_C (rest := []) (rm := rmX10_end) (As := [.int (iz (xs (6 * t + 1)).toInt)]) (o := (r, Sc1)) CC D hw tw2_115 tw2_116 tw2_117 tw1_1 tw2_118 hd_X10_end rfl ⟨⟨rfl, rfl⟩, (Nat.le_of_ble_eq_true rfl), (Nat.le_of_ble_eq_true rfl)⟩ hl.1 rfl (Nat.le_of_ble_eq_true rfl) dL_law_304 (by show cells ≤ 601024; omega) (by show slots ≤ 7293034; omega) (c_X10_end l X CC.2.2.2.1 (zc_ok X) N Sc ((xs (6 * t + 1)).toInt) (r, Sc1) f1) (fun H locs hw => ?_)
  refine lv_aload_n hx hb dL_law_307 rfl (lv_at hl 3 rfl) ?_
  refine l_ld hx hb hX hbl hw.2.2.2 hL ht (k := 1) (by decide) hl dL_law_308 dL_law_309 dL_law_311 dL_law_312 dL_law_313 ?_
  refine q_M (rest := [.int (iz r)]) (rm := rmX11_end) (As := [.int (iz (xs (6 * t + 1)).toInt)]) (o := (r, Sm1)) CM D hw tw6_73 tw6_74 tw6_75 tw1_12 tw6_76 hd_X11_end rfl ⟨⟨rfl, rfl⟩, (Nat.le_of_ble_eq_true rfl), (Nat.le_of_ble_eq_true rfl)⟩ hl.1 rfl (Nat.le_of_ble_eq_true rfl) dL_law_314 (by show cells ≤ 601024; omega) (by show slots ≤ 7293034; omega) (c_X11_end l XM CM.2.2.2.1 (zm_ok XM) M Sm ((xs (6 * t + 1)).toInt) (r, Sm1) f2) (fun H locs hw => ?_)
  refine lv_icmp_eq (tgt := 1445) hx hb dL_law_317 (by decide) (fun _ => ?_) (fun h => absurd rfl h)
  refine W.widen (k := cells + 1) (n := slots + 6) (by omega) (by omega) ?_
  exact tail Sc1 Sm1 fo H locs ls hr1 hw hl
def Op_fault (Rel Rel' : S2 → S2 → Prop) : Prop := ∀ Sc Sm : S2, Rel Sc Sm → ∀ (a1 : Int), inR a1 → ∃ (N M : Nat) (r : Int) (Sc1 Sm1 : S2), f_X10_fault N Sc a1 = some (r, Sc1) ∧ f_X11_fault M Sm a1 = some (r, Sm1) ∧ Rel' Sc1 Sm1
set_option maxRecDepth 100000 in
set_option maxHeartbeats 4000000 in
theorem lawc_2 {p : Program} {l : Launch} {e : Env} {s : State} {m : MethodId} {below : List Frame} {meth : Method} {c : Code} {b L : Nat} {xs : Nat → Int32} {X XM : XT} {ao : Nat} (G : LawC p l s m meth c b L xs X XM ao) {Rel Rel' : S2 → S2 → Prop} (op : Op_fault Rel Rel') {t cells slots : Nat} (ht : 6 * t + 6 ≤ L) (hc : cells + 1 ≤ 601024) (hs : slots + 6 ≤ 7293034) {Sc Sm : S2} {fo : Nat → Int64} {H : Heap} {locs : List Loc} {ls : Array Slot} (hr : Rel Sc Sm) (hw : LH X XM ao s.heap.size s.heap Sc Sm fo H locs) (hl : lv_has ls 7 (lvL t b (X.2.2 0) (XM.2.2 0) ao)) (tail : LTail p l e s m below meth c b X XM ao Rel' t (cells + 1) (slots + 6)) : W p l e room_1 s m #[Value.ref b] below meth c H locs cells slots (lw_Z below #[Value.ref b] s) (F0 m 322 ls []) := by
  obtain ⟨hx, hb, hret, hml, hown, htbl, hX, hbl, hlocks, hgv⟩ := id G.1
  obtain ⟨-, CC, CM, hzx, D, hlt, hL⟩ := G
  obtain ⟨N, M, r, Sc1, Sm1, f1, f2, hr1⟩ := op Sc Sm hr ((xs (6 * t + 1)).toInt) (inR_toInt _)
  refine lv_aload_n hx hb dL_law_322 rfl (lv_at hl 2 rfl) ?_
  refine l_ld hx hb hX hbl hw.2.2.2 hL ht (k := 1) (by decide) hl dL_law_323 dL_law_324 dL_law_326 dL_law_327 dL_law_328 ?_
  refine q_C (rest := []) (rm := rmX10_fault) (As := [.int (iz (xs (6 * t + 1)).toInt)]) (o := (r, Sc1)) CC D hw tw2_119 tw2_120 tw2_121 tw1_1 tw2_122 hd_X10_fault rfl ⟨⟨rfl, rfl⟩, (Nat.le_of_ble_eq_true rfl), (Nat.le_of_ble_eq_true rfl)⟩ hl.1 rfl (Nat.le_of_ble_eq_true rfl) dL_law_329 (by show cells ≤ 601024; omega) (by show slots ≤ 7293034; omega) (c_X10_fault l X CC.2.2.2.1 (zc_ok X) N Sc ((xs (6 * t + 1)).toInt) (r, Sc1) f1) (fun H locs hw => ?_)
  refine lv_aload_n hx hb dL_law_332 rfl (lv_at hl 3 rfl) ?_
  refine l_ld hx hb hX hbl hw.2.2.2 hL ht (k := 1) (by decide) hl dL_law_333 dL_law_334 dL_law_336 dL_law_337 dL_law_338 ?_
  refine q_M (rest := [.int (iz r)]) (rm := rmX11_fault) (As := [.int (iz (xs (6 * t + 1)).toInt)]) (o := (r, Sm1)) CM D hw tw6_80 tw6_81 tw6_82 tw1_12 tw6_83 hd_X11_fault rfl ⟨⟨rfl, rfl⟩, (Nat.le_of_ble_eq_true rfl), (Nat.le_of_ble_eq_true rfl)⟩ hl.1 rfl (Nat.le_of_ble_eq_true rfl) dL_law_339 (by show cells ≤ 601024; omega) (by show slots ≤ 7293034; omega) (c_X11_fault l XM CM.2.2.2.1 (zm_ok XM) M Sm ((xs (6 * t + 1)).toInt) (r, Sm1) f2) (fun H locs hw => ?_)
  refine lv_icmp_eq (tgt := 1445) hx hb dL_law_342 (by decide) (fun _ => ?_) (fun h => absurd rfl h)
  refine W.widen (k := cells + 1) (n := slots + 6) (by omega) (by omega) ?_
  exact tail Sc1 Sm1 fo H locs ls hr1 hw hl
def Op_text (Rel Rel' : S2 → S2 → Prop) : Prop := ∀ Sc Sm : S2, Rel Sc Sm → ∀ (a1 : Int), inR a1 → ∃ (N M : Nat) (r : Int) (Sc1 Sm1 : S2), f_X10_text N Sc a1 = some (r, Sc1) ∧ f_X11_text M Sm a1 = some (r, Sm1) ∧ Rel' Sc1 Sm1
set_option maxRecDepth 100000 in
set_option maxHeartbeats 4000000 in
theorem lawc_3 {p : Program} {l : Launch} {e : Env} {s : State} {m : MethodId} {below : List Frame} {meth : Method} {c : Code} {b L : Nat} {xs : Nat → Int32} {X XM : XT} {ao : Nat} (G : LawC p l s m meth c b L xs X XM ao) {Rel Rel' : S2 → S2 → Prop} (op : Op_text Rel Rel') {t cells slots : Nat} (ht : 6 * t + 6 ≤ L) (hc : cells + 1 ≤ 601024) (hs : slots + 6 ≤ 7293034) {Sc Sm : S2} {fo : Nat → Int64} {H : Heap} {locs : List Loc} {ls : Array Slot} (hr : Rel Sc Sm) (hw : LH X XM ao s.heap.size s.heap Sc Sm fo H locs) (hl : lv_has ls 7 (lvL t b (X.2.2 0) (XM.2.2 0) ao)) (tail : LTail p l e s m below meth c b X XM ao Rel' t (cells + 1) (slots + 6)) : W p l e room_1 s m #[Value.ref b] below meth c H locs cells slots (lw_Z below #[Value.ref b] s) (F0 m 347 ls []) := by
  obtain ⟨hx, hb, hret, hml, hown, htbl, hX, hbl, hlocks, hgv⟩ := id G.1
  obtain ⟨-, CC, CM, hzx, D, hlt, hL⟩ := G
  obtain ⟨N, M, r, Sc1, Sm1, f1, f2, hr1⟩ := op Sc Sm hr ((xs (6 * t + 1)).toInt) (inR_toInt _)
  refine lv_aload_n hx hb dL_law_347 rfl (lv_at hl 2 rfl) ?_
  refine l_ld hx hb hX hbl hw.2.2.2 hL ht (k := 1) (by decide) hl dL_law_348 dL_law_349 dL_law_351 dL_law_352 dL_law_353 ?_
  refine q_C (rest := []) (rm := rmX10_text) (As := [.int (iz (xs (6 * t + 1)).toInt)]) (o := (r, Sc1)) CC D hw tw3_42 tw3_43 tw3_44 tw1_1 tw3_45 hd_X10_text rfl ⟨⟨rfl, rfl⟩, (Nat.le_of_ble_eq_true rfl), (Nat.le_of_ble_eq_true rfl)⟩ hl.1 rfl (Nat.le_of_ble_eq_true rfl) dL_law_354 (by show cells ≤ 601024; omega) (by show slots ≤ 7293034; omega) (c_X10_text l X CC.2.2.2.1 (zc_ok X) N Sc ((xs (6 * t + 1)).toInt) (r, Sc1) f1) (fun H locs hw => ?_)
  refine lv_aload_n hx hb dL_law_357 rfl (lv_at hl 3 rfl) ?_
  refine l_ld hx hb hX hbl hw.2.2.2 hL ht (k := 1) (by decide) hl dL_law_358 dL_law_359 dL_law_361 dL_law_362 dL_law_363 ?_
  refine q_M (rest := [.int (iz r)]) (rm := rmX11_text) (As := [.int (iz (xs (6 * t + 1)).toInt)]) (o := (r, Sm1)) CM D hw tw6_184 tw6_185 tw6_186 tw1_12 tw6_187 hd_X11_text rfl ⟨⟨rfl, rfl⟩, (Nat.le_of_ble_eq_true rfl), (Nat.le_of_ble_eq_true rfl)⟩ hl.1 rfl (Nat.le_of_ble_eq_true rfl) dL_law_364 (by show cells ≤ 601024; omega) (by show slots ≤ 7293034; omega) (c_X11_text l XM CM.2.2.2.1 (zm_ok XM) M Sm ((xs (6 * t + 1)).toInt) (r, Sm1) f2) (fun H locs hw => ?_)
  refine lv_icmp_eq (tgt := 1445) hx hb dL_law_367 (by decide) (fun _ => ?_) (fun h => absurd rfl h)
  refine W.widen (k := cells + 1) (n := slots + 6) (by omega) (by omega) ?_
  exact tail Sc1 Sm1 fo H locs ls hr1 hw hl
def Op_rule (Rel Rel' : S2 → S2 → Prop) : Prop := ∀ Sc Sm : S2, Rel Sc Sm → ∀ (a1 : Int), inR a1 → ∃ (N M : Nat) (r : Int) (Sc1 Sm1 : S2), f_X10_rule N Sc a1 = some (r, Sc1) ∧ f_X11_rule M Sm a1 = some (r, Sm1) ∧ Rel' Sc1 Sm1
set_option maxRecDepth 100000 in
set_option maxHeartbeats 4000000 in
theorem lawc_4 {p : Program} {l : Launch} {e : Env} {s : State} {m : MethodId} {below : List Frame} {meth : Method} {c : Code} {b L : Nat} {xs : Nat → Int32} {X XM : XT} {ao : Nat} (G : LawC p l s m meth c b L xs X XM ao) {Rel Rel' : S2 → S2 → Prop} (op : Op_rule Rel Rel') {t cells slots : Nat} (ht : 6 * t + 6 ≤ L) (hc : cells + 1 ≤ 601024) (hs : slots + 6 ≤ 7293034) {Sc Sm : S2} {fo : Nat → Int64} {H : Heap} {locs : List Loc} {ls : Array Slot} (hr : Rel Sc Sm) (hw : LH X XM ao s.heap.size s.heap Sc Sm fo H locs) (hl : lv_has ls 7 (lvL t b (X.2.2 0) (XM.2.2 0) ao)) (tail : LTail p l e s m below meth c b X XM ao Rel' t (cells + 1) (slots + 6)) : W p l e room_1 s m #[Value.ref b] below meth c H locs cells slots (lw_Z below #[Value.ref b] s) (F0 m 372 ls []) := by
  obtain ⟨hx, hb, hret, hml, hown, htbl, hX, hbl, hlocks, hgv⟩ := id G.1
  obtain ⟨-, CC, CM, hzx, D, hlt, hL⟩ := G
  obtain ⟨N, M, r, Sc1, Sm1, f1, f2, hr1⟩ := op Sc Sm hr ((xs (6 * t + 1)).toInt) (inR_toInt _)
  refine lv_aload_n hx hb dL_law_372 rfl (lv_at hl 2 rfl) ?_
  refine l_ld hx hb hX hbl hw.2.2.2 hL ht (k := 1) (by decide) hl dL_law_373 dL_law_374 dL_law_376 dL_law_377 dL_law_378 ?_
  refine q_C (rest := []) (rm := rmX10_rule) (As := [.int (iz (xs (6 * t + 1)).toInt)]) (o := (r, Sc1)) CC D hw tw3_129 tw3_130 tw3_131 tw1_1 tw3_132 hd_X10_rule rfl ⟨⟨rfl, rfl⟩, (Nat.le_of_ble_eq_true rfl), (Nat.le_of_ble_eq_true rfl)⟩ hl.1 rfl (Nat.le_of_ble_eq_true rfl) dL_law_379 (by show cells ≤ 601024; omega) (by show slots ≤ 7293034; omega) (c_X10_rule l X CC.2.2.2.1 (zc_ok X) N Sc ((xs (6 * t + 1)).toInt) (r, Sc1) f1) (fun H locs hw => ?_)
  refine lv_aload_n hx hb dL_law_382 rfl (lv_at hl 3 rfl) ?_
  refine l_ld hx hb hX hbl hw.2.2.2 hL ht (k := 1) (by decide) hl dL_law_383 dL_law_384 dL_law_386 dL_law_387 dL_law_388 ?_
  refine q_M (rest := [.int (iz r)]) (rm := rmX11_rule) (As := [.int (iz (xs (6 * t + 1)).toInt)]) (o := (r, Sm1)) CM D hw tw7_150 tw7_151 tw7_152 tw1_12 tw7_153 hd_X11_rule rfl ⟨⟨rfl, rfl⟩, (Nat.le_of_ble_eq_true rfl), (Nat.le_of_ble_eq_true rfl)⟩ hl.1 rfl (Nat.le_of_ble_eq_true rfl) dL_law_389 (by show cells ≤ 601024; omega) (by show slots ≤ 7293034; omega) (c_X11_rule l XM CM.2.2.2.1 (zm_ok XM) M Sm ((xs (6 * t + 1)).toInt) (r, Sm1) f2) (fun H locs hw => ?_)
  refine lv_icmp_eq (tgt := 1445) hx hb dL_law_392 (by decide) (fun _ => ?_) (fun h => absurd rfl h)
  refine W.widen (k := cells + 1) (n := slots + 6) (by omega) (by omega) ?_
  exact tail Sc1 Sm1 fo H locs ls hr1 hw hl
def Op_sample (Rel Rel' : S2 → S2 → Prop) : Prop := ∀ Sc Sm : S2, Rel Sc Sm → ∀ (a1 : Int), inR a1 → ∃ (N M : Nat) (r : Int) (Sc1 Sm1 : S2), f_X10_sample N Sc a1 = some (r, Sc1) ∧ f_X11_sample M Sm a1 = some (r, Sm1) ∧ Rel' Sc1 Sm1
set_option maxRecDepth 100000 in
set_option maxHeartbeats 4000000 in
theorem lawc_5 {p : Program} {l : Launch} {e : Env} {s : State} {m : MethodId} {below : List Frame} {meth : Method} {c : Code} {b L : Nat} {xs : Nat → Int32} {X XM : XT} {ao : Nat} (G : LawC p l s m meth c b L xs X XM ao) {Rel Rel' : S2 → S2 → Prop} (op : Op_sample Rel Rel') {t cells slots : Nat} (ht : 6 * t + 6 ≤ L) (hc : cells + 1 ≤ 601024) (hs : slots + 6 ≤ 7293034) {Sc Sm : S2} {fo : Nat → Int64} {H : Heap} {locs : List Loc} {ls : Array Slot} (hr : Rel Sc Sm) (hw : LH X XM ao s.heap.size s.heap Sc Sm fo H locs) (hl : lv_has ls 7 (lvL t b (X.2.2 0) (XM.2.2 0) ao)) (tail : LTail p l e s m below meth c b X XM ao Rel' t (cells + 1) (slots + 6)) : W p l e room_1 s m #[Value.ref b] below meth c H locs cells slots (lw_Z below #[Value.ref b] s) (F0 m 397 ls []) := by
  obtain ⟨hx, hb, hret, hml, hown, htbl, hX, hbl, hlocks, hgv⟩ := id G.1
  obtain ⟨-, CC, CM, hzx, D, hlt, hL⟩ := G
  obtain ⟨N, M, r, Sc1, Sm1, f1, f2, hr1⟩ := op Sc Sm hr ((xs (6 * t + 1)).toInt) (inR_toInt _)
  refine lv_aload_n hx hb dL_law_397 rfl (lv_at hl 2 rfl) ?_
  refine l_ld hx hb hX hbl hw.2.2.2 hL ht (k := 1) (by decide) hl dL_law_398 dL_law_399 dL_law_401 dL_law_402 dL_law_403 ?_
  refine q_C (rest := []) (rm := rmX10_sample) (As := [.int (iz (xs (6 * t + 1)).toInt)]) (o := (r, Sc1)) CC D hw tw3_146 tw3_147 tw3_148 tw1_1 tw3_149 hd_X10_sample rfl ⟨⟨rfl, rfl⟩, (Nat.le_of_ble_eq_true rfl), (Nat.le_of_ble_eq_true rfl)⟩ hl.1 rfl (Nat.le_of_ble_eq_true rfl) dL_law_404 (by show cells ≤ 601024; omega) (by show slots ≤ 7293034; omega) (c_X10_sample l X CC.2.2.2.1 (zc_ok X) N Sc ((xs (6 * t + 1)).toInt) (r, Sc1) f1) (fun H locs hw => ?_)
  refine lv_aload_n hx hb dL_law_407 rfl (lv_at hl 3 rfl) ?_
  refine l_ld hx hb hX hbl hw.2.2.2 hL ht (k := 1) (by decide) hl dL_law_408 dL_law_409 dL_law_411 dL_law_412 dL_law_413 ?_
  refine q_M (rest := [.int (iz r)]) (rm := rmX11_sample) (As := [.int (iz (xs (6 * t + 1)).toInt)]) (o := (r, Sm1)) CM D hw tw7_158 tw7_159 tw7_160 tw1_12 tw7_161 hd_X11_sample rfl ⟨⟨rfl, rfl⟩, (Nat.le_of_ble_eq_true rfl), (Nat.le_of_ble_eq_true rfl)⟩ hl.1 rfl (Nat.le_of_ble_eq_true rfl) dL_law_414 (by show cells ≤ 601024; omega) (by show slots ≤ 7293034; omega) (c_X11_sample l XM CM.2.2.2.1 (zm_ok XM) M Sm ((xs (6 * t + 1)).toInt) (r, Sm1) f2) (fun H locs hw => ?_)
  refine lv_icmp_eq (tgt := 1445) hx hb dL_law_417 (by decide) (fun _ => ?_) (fun h => absurd rfl h)
  refine W.widen (k := cells + 1) (n := slots + 6) (by omega) (by omega) ?_
  exact tail Sc1 Sm1 fo H locs ls hr1 hw hl
def Op_basin (Rel Rel' : S2 → S2 → Prop) : Prop := ∀ Sc Sm : S2, Rel Sc Sm → ∀ (a1 : Int) (a2 : Int), inR a1 → inR a2 → ∃ (N M : Nat) (r : Int) (Sc1 Sm1 : S2), f_X10_basin N Sc a1 a2 = some (r, Sc1) ∧ f_X11_basin M Sm a1 a2 = some (r, Sm1) ∧ Rel' Sc1 Sm1
set_option maxRecDepth 100000 in
set_option maxHeartbeats 4000000 in
theorem lawc_7 {p : Program} {l : Launch} {e : Env} {s : State} {m : MethodId} {below : List Frame} {meth : Method} {c : Code} {b L : Nat} {xs : Nat → Int32} {X XM : XT} {ao : Nat} (G : LawC p l s m meth c b L xs X XM ao) {Rel Rel' : S2 → S2 → Prop} (op : Op_basin Rel Rel') {t cells slots : Nat} (ht : 6 * t + 6 ≤ L) (hc : cells + 1 ≤ 601024) (hs : slots + 6 ≤ 7293034) {Sc Sm : S2} {fo : Nat → Int64} {H : Heap} {locs : List Loc} {ls : Array Slot} (hr : Rel Sc Sm) (hw : LH X XM ao s.heap.size s.heap Sc Sm fo H locs) (hl : lv_has ls 7 (lvL t b (X.2.2 0) (XM.2.2 0) ao)) (tail : LTail p l e s m below meth c b X XM ao Rel' t (cells + 1) (slots + 6)) : W p l e room_1 s m #[Value.ref b] below meth c H locs cells slots (lw_Z below #[Value.ref b] s) (F0 m 490 ls []) := by
  obtain ⟨hx, hb, hret, hml, hown, htbl, hX, hbl, hlocks, hgv⟩ := id G.1
  obtain ⟨-, CC, CM, hzx, D, hlt, hL⟩ := G
  obtain ⟨N, M, r, Sc1, Sm1, f1, f2, hr1⟩ := op Sc Sm hr ((xs (6 * t + 1)).toInt) ((xs (6 * t + 2)).toInt) (inR_toInt _) (inR_toInt _)
  refine lv_aload_n hx hb dL_law_490 rfl (lv_at hl 2 rfl) ?_
  refine l_ld hx hb hX hbl hw.2.2.2 hL ht (k := 1) (by decide) hl dL_law_491 dL_law_492 dL_law_494 dL_law_495 dL_law_496 ?_
  refine l_ld hx hb hX hbl hw.2.2.2 hL ht (k := 2) (by decide) hl dL_law_497 dL_law_498 dL_law_500 dL_law_501 dL_law_502 ?_
  refine q_C (rest := []) (rm := rmX10_basin) (As := [.int (iz (xs (6 * t + 1)).toInt), .int (iz (xs (6 * t + 2)).toInt)]) (o := (r, Sc1)) CC D hw tw3_154 tw3_155 tw3_156 tw1_1 tw3_157 hd_X10_basin rfl ⟨⟨rfl, rfl⟩, (Nat.le_of_ble_eq_true rfl), (Nat.le_of_ble_eq_true rfl)⟩ hl.1 rfl (Nat.le_of_ble_eq_true rfl) dL_law_503 (by show cells ≤ 601024; omega) (by show slots ≤ 7293034; omega) (c_X10_basin l X CC.2.2.2.1 (zc_ok X) N Sc ((xs (6 * t + 1)).toInt) ((xs (6 * t + 2)).toInt) (r, Sc1) f1) (fun H locs hw => ?_)
  refine lv_aload_n hx hb dL_law_506 rfl (lv_at hl 3 rfl) ?_
  refine l_ld hx hb hX hbl hw.2.2.2 hL ht (k := 1) (by decide) hl dL_law_507 dL_law_508 dL_law_510 dL_law_511 dL_law_512 ?_
  refine l_ld hx hb hX hbl hw.2.2.2 hL ht (k := 2) (by decide) hl dL_law_513 dL_law_514 dL_law_516 dL_law_517 dL_law_518 ?_
  refine q_M (rest := [.int (iz r)]) (rm := rmX11_basin) (As := [.int (iz (xs (6 * t + 1)).toInt), .int (iz (xs (6 * t + 2)).toInt)]) (o := (r, Sm1)) CM D hw tw7_186 tw7_187 tw7_188 tw1_12 tw7_189 hd_X11_basin rfl ⟨⟨rfl, rfl⟩, (Nat.le_of_ble_eq_true rfl), (Nat.le_of_ble_eq_true rfl)⟩ hl.1 rfl (Nat.le_of_ble_eq_true rfl) dL_law_519 (by show cells ≤ 601024; omega) (by show slots ≤ 7293034; omega) (c_X11_basin l XM CM.2.2.2.1 (zm_ok XM) M Sm ((xs (6 * t + 1)).toInt) ((xs (6 * t + 2)).toInt) (r, Sm1) f2) (fun H locs hw => ?_)
  refine lv_icmp_eq (tgt := 1445) hx hb dL_law_522 (by decide) (fun _ => ?_) (fun h => absurd rfl h)
  refine W.widen (k := cells + 1) (n := slots + 6) (by omega) (by omega) ?_
  exact tail Sc1 Sm1 fo H locs ls hr1 hw hl
def Op_at (Rel Rel' : S2 → S2 → Prop) : Prop := ∀ Sc Sm : S2, Rel Sc Sm → ∀ (a1 : Int) (a2 : Int), inR a1 → inR a2 → ∃ (N M : Nat) (r : Int) (Sc1 Sm1 : S2), f_X10_at N Sc a1 a2 = some (r, Sc1) ∧ f_X11_at M Sm a1 a2 = some (r, Sm1) ∧ Rel' Sc1 Sm1
set_option maxRecDepth 100000 in
set_option maxHeartbeats 4000000 in
theorem lawc_8 {p : Program} {l : Launch} {e : Env} {s : State} {m : MethodId} {below : List Frame} {meth : Method} {c : Code} {b L : Nat} {xs : Nat → Int32} {X XM : XT} {ao : Nat} (G : LawC p l s m meth c b L xs X XM ao) {Rel Rel' : S2 → S2 → Prop} (op : Op_at Rel Rel') {t cells slots : Nat} (ht : 6 * t + 6 ≤ L) (hc : cells + 1 ≤ 601024) (hs : slots + 6 ≤ 7293034) {Sc Sm : S2} {fo : Nat → Int64} {H : Heap} {locs : List Loc} {ls : Array Slot} (hr : Rel Sc Sm) (hw : LH X XM ao s.heap.size s.heap Sc Sm fo H locs) (hl : lv_has ls 7 (lvL t b (X.2.2 0) (XM.2.2 0) ao)) (tail : LTail p l e s m below meth c b X XM ao Rel' t (cells + 1) (slots + 6)) : W p l e room_1 s m #[Value.ref b] below meth c H locs cells slots (lw_Z below #[Value.ref b] s) (F0 m 527 ls []) := by
  obtain ⟨hx, hb, hret, hml, hown, htbl, hX, hbl, hlocks, hgv⟩ := id G.1
  obtain ⟨-, CC, CM, hzx, D, hlt, hL⟩ := G
  obtain ⟨N, M, r, Sc1, Sm1, f1, f2, hr1⟩ := op Sc Sm hr ((xs (6 * t + 1)).toInt) ((xs (6 * t + 2)).toInt) (inR_toInt _) (inR_toInt _)
  refine lv_aload_n hx hb dL_law_527 rfl (lv_at hl 2 rfl) ?_
  refine l_ld hx hb hX hbl hw.2.2.2 hL ht (k := 1) (by decide) hl dL_law_528 dL_law_529 dL_law_531 dL_law_532 dL_law_533 ?_
  refine l_ld hx hb hX hbl hw.2.2.2 hL ht (k := 2) (by decide) hl dL_law_534 dL_law_535 dL_law_537 dL_law_538 dL_law_539 ?_
  refine q_C (rest := []) (rm := rmX10_at) (As := [.int (iz (xs (6 * t + 1)).toInt), .int (iz (xs (6 * t + 2)).toInt)]) (o := (r, Sc1)) CC D hw tw3_198 tw3_199 tw3_200 tw1_1 tw3_201 hd_X10_at rfl ⟨⟨rfl, rfl⟩, (Nat.le_of_ble_eq_true rfl), (Nat.le_of_ble_eq_true rfl)⟩ hl.1 rfl (Nat.le_of_ble_eq_true rfl) dL_law_540 (by show cells ≤ 601024; omega) (by show slots ≤ 7293034; omega) (c_X10_at l X CC.2.2.2.1 (zc_ok X) N Sc ((xs (6 * t + 1)).toInt) ((xs (6 * t + 2)).toInt) (r, Sc1) f1) (fun H locs hw => ?_)
  refine lv_aload_n hx hb dL_law_543 rfl (lv_at hl 3 rfl) ?_
  refine l_ld hx hb hX hbl hw.2.2.2 hL ht (k := 1) (by decide) hl dL_law_544 dL_law_545 dL_law_547 dL_law_548 dL_law_549 ?_
  refine l_ld hx hb hX hbl hw.2.2.2 hL ht (k := 2) (by decide) hl dL_law_550 dL_law_551 dL_law_553 dL_law_554 dL_law_555 ?_
  refine q_M (rest := [.int (iz r)]) (rm := rmX11_at) (As := [.int (iz (xs (6 * t + 1)).toInt), .int (iz (xs (6 * t + 2)).toInt)]) (o := (r, Sm1)) CM D hw tw7_218 tw7_219 tw7_220 tw1_12 tw7_221 hd_X11_at rfl ⟨⟨rfl, rfl⟩, (Nat.le_of_ble_eq_true rfl), (Nat.le_of_ble_eq_true rfl)⟩ hl.1 rfl (Nat.le_of_ble_eq_true rfl) dL_law_556 (by show cells ≤ 601024; omega) (by show slots ≤ 7293034; omega) (c_X11_at l XM CM.2.2.2.1 (zm_ok XM) M Sm ((xs (6 * t + 1)).toInt) ((xs (6 * t + 2)).toInt) (r, Sm1) f2) (fun H locs hw => ?_)
  refine lv_icmp_eq (tgt := 1445) hx hb dL_law_559 (by decide) (fun _ => ?_) (fun h => absurd rfl h)
  refine W.widen (k := cells + 1) (n := slots + 6) (by omega) (by omega) ?_
  exact tail Sc1 Sm1 fo H locs ls hr1 hw hl
def Op_line (Rel Rel' : S2 → S2 → Prop) : Prop := ∀ Sc Sm : S2, Rel Sc Sm → ∀ (a1 : Int) (a2 : Int), inR a1 → inR a2 → ∃ (N M : Nat) (r : Int) (Sc1 Sm1 : S2), f_X10_line N Sc a1 a2 = some (r, Sc1) ∧ f_X11_line M Sm a1 a2 = some (r, Sm1) ∧ Rel' Sc1 Sm1
set_option maxRecDepth 100000 in
set_option maxHeartbeats 4000000 in
theorem lawc_9 {p : Program} {l : Launch} {e : Env} {s : State} {m : MethodId} {below : List Frame} {meth : Method} {c : Code} {b L : Nat} {xs : Nat → Int32} {X XM : XT} {ao : Nat} (G : LawC p l s m meth c b L xs X XM ao) {Rel Rel' : S2 → S2 → Prop} (op : Op_line Rel Rel') {t cells slots : Nat} (ht : 6 * t + 6 ≤ L) (hc : cells + 1 ≤ 601024) (hs : slots + 6 ≤ 7293034) {Sc Sm : S2} {fo : Nat → Int64} {H : Heap} {locs : List Loc} {ls : Array Slot} (hr : Rel Sc Sm) (hw : LH X XM ao s.heap.size s.heap Sc Sm fo H locs) (hl : lv_has ls 7 (lvL t b (X.2.2 0) (XM.2.2 0) ao)) (tail : LTail p l e s m below meth c b X XM ao Rel' t (cells + 1) (slots + 6)) : W p l e room_1 s m #[Value.ref b] below meth c H locs cells slots (lw_Z below #[Value.ref b] s) (F0 m 564 ls []) := by
  obtain ⟨hx, hb, hret, hml, hown, htbl, hX, hbl, hlocks, hgv⟩ := id G.1
  obtain ⟨-, CC, CM, hzx, D, hlt, hL⟩ := G
  obtain ⟨N, M, r, Sc1, Sm1, f1, f2, hr1⟩ := op Sc Sm hr ((xs (6 * t + 1)).toInt) ((xs (6 * t + 2)).toInt) (inR_toInt _) (inR_toInt _)
  refine lv_aload_n hx hb dL_law_564 rfl (lv_at hl 2 rfl) ?_
  refine l_ld hx hb hX hbl hw.2.2.2 hL ht (k := 1) (by decide) hl dL_law_565 dL_law_566 dL_law_568 dL_law_569 dL_law_570 ?_
  refine l_ld hx hb hX hbl hw.2.2.2 hL ht (k := 2) (by decide) hl dL_law_571 dL_law_572 dL_law_574 dL_law_575 dL_law_576 ?_
  refine q_C (rest := []) (rm := rmX10_line) (As := [.int (iz (xs (6 * t + 1)).toInt), .int (iz (xs (6 * t + 2)).toInt)]) (o := (r, Sc1)) CC D hw tw3_210 tw3_211 tw3_212 tw1_1 tw3_213 hd_X10_line rfl ⟨⟨rfl, rfl⟩, (Nat.le_of_ble_eq_true rfl), (Nat.le_of_ble_eq_true rfl)⟩ hl.1 rfl (Nat.le_of_ble_eq_true rfl) dL_law_577 (by show cells ≤ 601024; omega) (by show slots ≤ 7293034; omega) (c_X10_line l X CC.2.2.2.1 (zc_ok X) N Sc ((xs (6 * t + 1)).toInt) ((xs (6 * t + 2)).toInt) (r, Sc1) f1) (fun H locs hw => ?_)
  refine lv_aload_n hx hb dL_law_580 rfl (lv_at hl 3 rfl) ?_
  refine l_ld hx hb hX hbl hw.2.2.2 hL ht (k := 1) (by decide) hl dL_law_581 dL_law_582 dL_law_584 dL_law_585 dL_law_586 ?_
  refine l_ld hx hb hX hbl hw.2.2.2 hL ht (k := 2) (by decide) hl dL_law_587 dL_law_588 dL_law_590 dL_law_591 dL_law_592 ?_
  refine q_M (rest := [.int (iz r)]) (rm := rmX11_line) (As := [.int (iz (xs (6 * t + 1)).toInt), .int (iz (xs (6 * t + 2)).toInt)]) (o := (r, Sm1)) CM D hw tw7_222 tw7_223 tw7_224 tw1_12 tw7_225 hd_X11_line rfl ⟨⟨rfl, rfl⟩, (Nat.le_of_ble_eq_true rfl), (Nat.le_of_ble_eq_true rfl)⟩ hl.1 rfl (Nat.le_of_ble_eq_true rfl) dL_law_593 (by show cells ≤ 601024; omega) (by show slots ≤ 7293034; omega) (c_X11_line l XM CM.2.2.2.1 (zm_ok XM) M Sm ((xs (6 * t + 1)).toInt) ((xs (6 * t + 2)).toInt) (r, Sm1) f2) (fun H locs hw => ?_)
  refine lv_icmp_eq (tgt := 1445) hx hb dL_law_596 (by decide) (fun _ => ?_) (fun h => absurd rfl h)
  refine W.widen (k := cells + 1) (n := slots + 6) (by omega) (by omega) ?_
  exact tail Sc1 Sm1 fo H locs ls hr1 hw hl
def Op_smooth (Rel Rel' : S2 → S2 → Prop) : Prop := ∀ Sc Sm : S2, Rel Sc Sm → ∃ (N M : Nat) (r : Int) (Sc1 Sm1 : S2), f_X10_smooth N Sc = some (r, Sc1) ∧ f_X11_smooth M Sm = some (r, Sm1) ∧ Rel' Sc1 Sm1
set_option maxRecDepth 100000 in
set_option maxHeartbeats 4000000 in
theorem lawc_10 {p : Program} {l : Launch} {e : Env} {s : State} {m : MethodId} {below : List Frame} {meth : Method} {c : Code} {b L : Nat} {xs : Nat → Int32} {X XM : XT} {ao : Nat} (G : LawC p l s m meth c b L xs X XM ao) {Rel Rel' : S2 → S2 → Prop} (op : Op_smooth Rel Rel') {t cells slots : Nat} (ht : 6 * t + 6 ≤ L) (hc : cells + 1 ≤ 601024) (hs : slots + 6 ≤ 7293034) {Sc Sm : S2} {fo : Nat → Int64} {H : Heap} {locs : List Loc} {ls : Array Slot} (hr : Rel Sc Sm) (hw : LH X XM ao s.heap.size s.heap Sc Sm fo H locs) (hl : lv_has ls 7 (lvL t b (X.2.2 0) (XM.2.2 0) ao)) (tail : LTail p l e s m below meth c b X XM ao Rel' t (cells + 1) (slots + 6)) : W p l e room_1 s m #[Value.ref b] below meth c H locs cells slots (lw_Z below #[Value.ref b] s) (F0 m 601 ls []) := by
  obtain ⟨hx, hb, hret, hml, hown, htbl, hX, hbl, hlocks, hgv⟩ := id G.1
  obtain ⟨-, CC, CM, hzx, D, hlt, hL⟩ := G
  obtain ⟨N, M, r, Sc1, Sm1, f1, f2, hr1⟩ := op Sc Sm hr  
  refine lv_aload_n hx hb dL_law_601 rfl (lv_at hl 2 rfl) ?_
  refine q_C (rest := []) (rm := rmX10_smooth) (As := []) (o := (r, Sc1)) CC D hw tw3_226 tw3_227 tw3_228 tw1_1 tw3_229 hd_X10_smooth rfl ⟨⟨rfl, rfl⟩, (Nat.le_of_ble_eq_true rfl), (Nat.le_of_ble_eq_true rfl)⟩ hl.1 rfl (Nat.le_of_ble_eq_true rfl) dL_law_602 (by show cells ≤ 601024; omega) (by show slots ≤ 7293034; omega) (c_X10_smooth l X CC.2.2.2.1 (zc_ok X) N Sc  (r, Sc1) f1) (fun H locs hw => ?_)
  refine lv_aload_n hx hb dL_law_605 rfl (lv_at hl 3 rfl) ?_
  refine q_M (rest := [.int (iz r)]) (rm := rmX11_smooth) (As := []) (o := (r, Sm1)) CM D hw tw6_196 tw6_197 tw6_198 tw1_12 tw6_199 hd_X11_smooth rfl ⟨⟨rfl, rfl⟩, (Nat.le_of_ble_eq_true rfl), (Nat.le_of_ble_eq_true rfl)⟩ hl.1 rfl (Nat.le_of_ble_eq_true rfl) dL_law_606 (by show cells ≤ 601024; omega) (by show slots ≤ 7293034; omega) (c_X11_smooth l XM CM.2.2.2.1 (zm_ok XM) M Sm  (r, Sm1) f2) (fun H locs hw => ?_)
  refine lv_icmp_eq (tgt := 1445) hx hb dL_law_609 (by decide) (fun _ => ?_) (fun h => absurd rfl h)
  refine W.widen (k := cells + 1) (n := slots + 6) (by omega) (by omega) ?_
  exact tail Sc1 Sm1 fo H locs ls hr1 hw hl
def Op_median (Rel Rel' : S2 → S2 → Prop) : Prop := ∀ Sc Sm : S2, Rel Sc Sm → ∃ (N M : Nat) (r : Int) (Sc1 Sm1 : S2), f_X10_median N Sc = some (r, Sc1) ∧ f_X11_median M Sm = some (r, Sm1) ∧ Rel' Sc1 Sm1
set_option maxRecDepth 100000 in
set_option maxHeartbeats 4000000 in
theorem lawc_11 {p : Program} {l : Launch} {e : Env} {s : State} {m : MethodId} {below : List Frame} {meth : Method} {c : Code} {b L : Nat} {xs : Nat → Int32} {X XM : XT} {ao : Nat} (G : LawC p l s m meth c b L xs X XM ao) {Rel Rel' : S2 → S2 → Prop} (op : Op_median Rel Rel') {t cells slots : Nat} (ht : 6 * t + 6 ≤ L) (hc : cells + 1 ≤ 601024) (hs : slots + 6 ≤ 7293034) {Sc Sm : S2} {fo : Nat → Int64} {H : Heap} {locs : List Loc} {ls : Array Slot} (hr : Rel Sc Sm) (hw : LH X XM ao s.heap.size s.heap Sc Sm fo H locs) (hl : lv_has ls 7 (lvL t b (X.2.2 0) (XM.2.2 0) ao)) (tail : LTail p l e s m below meth c b X XM ao Rel' t (cells + 1) (slots + 6)) : W p l e room_1 s m #[Value.ref b] below meth c H locs cells slots (lw_Z below #[Value.ref b] s) (F0 m 614 ls []) := by
  obtain ⟨hx, hb, hret, hml, hown, htbl, hX, hbl, hlocks, hgv⟩ := id G.1
  obtain ⟨-, CC, CM, hzx, D, hlt, hL⟩ := G
  obtain ⟨N, M, r, Sc1, Sm1, f1, f2, hr1⟩ := op Sc Sm hr  
  refine lv_aload_n hx hb dL_law_614 rfl (lv_at hl 2 rfl) ?_
  refine q_C (rest := []) (rm := rmX10_median) (As := []) (o := (r, Sc1)) CC D hw tw4_71 tw4_72 tw4_73 tw1_1 tw4_74 hd_X10_median rfl ⟨⟨rfl, rfl⟩, (Nat.le_of_ble_eq_true rfl), (Nat.le_of_ble_eq_true rfl)⟩ hl.1 rfl (Nat.le_of_ble_eq_true rfl) dL_law_615 (by show cells ≤ 601024; omega) (by show slots ≤ 7293034; omega) (c_X10_median l X CC.2.2.2.1 (zc_ok X) N Sc  (r, Sc1) f1) (fun H locs hw => ?_)
  refine lv_aload_n hx hb dL_law_618 rfl (lv_at hl 3 rfl) ?_
  refine q_M (rest := [.int (iz r)]) (rm := rmX11_median) (As := []) (o := (r, Sm1)) CM D hw tw7_88 tw7_89 tw7_90 tw1_12 tw7_91 hd_X11_median rfl ⟨⟨rfl, rfl⟩, (Nat.le_of_ble_eq_true rfl), (Nat.le_of_ble_eq_true rfl)⟩ hl.1 rfl (Nat.le_of_ble_eq_true rfl) dL_law_619 (by show cells ≤ 601024; omega) (by show slots ≤ 7293034; omega) (c_X11_median l XM CM.2.2.2.1 (zm_ok XM) M Sm  (r, Sm1) f2) (fun H locs hw => ?_)
  refine lv_icmp_eq (tgt := 1445) hx hb dL_law_622 (by decide) (fun _ => ?_) (fun h => absurd rfl h)
  refine W.widen (k := cells + 1) (n := slots + 6) (by omega) (by omega) ?_
  exact tail Sc1 Sm1 fo H locs ls hr1 hw hl
def Op_flat (Rel Rel' : S2 → S2 → Prop) : Prop := ∀ Sc Sm : S2, Rel Sc Sm → ∃ (N M : Nat) (r : Int) (Sc1 Sm1 : S2), f_X10_flat N Sc = some (r, Sc1) ∧ f_X11_flat M Sm = some (r, Sm1) ∧ Rel' Sc1 Sm1
set_option maxRecDepth 100000 in
set_option maxHeartbeats 4000000 in
theorem lawc_12 {p : Program} {l : Launch} {e : Env} {s : State} {m : MethodId} {below : List Frame} {meth : Method} {c : Code} {b L : Nat} {xs : Nat → Int32} {X XM : XT} {ao : Nat} (G : LawC p l s m meth c b L xs X XM ao) {Rel Rel' : S2 → S2 → Prop} (op : Op_flat Rel Rel') {t cells slots : Nat} (ht : 6 * t + 6 ≤ L) (hc : cells + 1 ≤ 601024) (hs : slots + 6 ≤ 7293034) {Sc Sm : S2} {fo : Nat → Int64} {H : Heap} {locs : List Loc} {ls : Array Slot} (hr : Rel Sc Sm) (hw : LH X XM ao s.heap.size s.heap Sc Sm fo H locs) (hl : lv_has ls 7 (lvL t b (X.2.2 0) (XM.2.2 0) ao)) (tail : LTail p l e s m below meth c b X XM ao Rel' t (cells + 1) (slots + 6)) : W p l e room_1 s m #[Value.ref b] below meth c H locs cells slots (lw_Z below #[Value.ref b] s) (F0 m 627 ls []) := by
  obtain ⟨hx, hb, hret, hml, hown, htbl, hX, hbl, hlocks, hgv⟩ := id G.1
  obtain ⟨-, CC, CM, hzx, D, hlt, hL⟩ := G
  obtain ⟨N, M, r, Sc1, Sm1, f1, f2, hr1⟩ := op Sc Sm hr  
  refine lv_aload_n hx hb dL_law_627 rfl (lv_at hl 2 rfl) ?_
  refine q_C (rest := []) (rm := rmX10_flat) (As := []) (o := (r, Sc1)) CC D hw tw4_75 tw4_76 tw4_77 tw1_1 tw4_78 hd_X10_flat rfl ⟨⟨rfl, rfl⟩, (Nat.le_of_ble_eq_true rfl), (Nat.le_of_ble_eq_true rfl)⟩ hl.1 rfl (Nat.le_of_ble_eq_true rfl) dL_law_628 (by show cells ≤ 601024; omega) (by show slots ≤ 7293034; omega) (c_X10_flat l X CC.2.2.2.1 (zc_ok X) N Sc  (r, Sc1) f1) (fun H locs hw => ?_)
  refine lv_aload_n hx hb dL_law_631 rfl (lv_at hl 3 rfl) ?_
  refine q_M (rest := [.int (iz r)]) (rm := rmX11_flat) (As := []) (o := (r, Sm1)) CM D hw tw7_92 tw7_93 tw7_94 tw1_12 tw7_95 hd_X11_flat rfl ⟨⟨rfl, rfl⟩, (Nat.le_of_ble_eq_true rfl), (Nat.le_of_ble_eq_true rfl)⟩ hl.1 rfl (Nat.le_of_ble_eq_true rfl) dL_law_632 (by show cells ≤ 601024; omega) (by show slots ≤ 7293034; omega) (c_X11_flat l XM CM.2.2.2.1 (zm_ok XM) M Sm  (r, Sm1) f2) (fun H locs hw => ?_)
  refine lv_icmp_eq (tgt := 1445) hx hb dL_law_635 (by decide) (fun _ => ?_) (fun h => absurd rfl h)
  refine W.widen (k := cells + 1) (n := slots + 6) (by omega) (by omega) ?_
  exact tail Sc1 Sm1 fo H locs ls hr1 hw hl
def Op_turn (Rel Rel' : S2 → S2 → Prop) : Prop := ∀ Sc Sm : S2, Rel Sc Sm → ∃ (N M : Nat) (r : Int) (Sc1 Sm1 : S2), f_X10_turn N Sc = some (r, Sc1) ∧ f_X11_turn M Sm = some (r, Sm1) ∧ Rel' Sc1 Sm1
set_option maxRecDepth 100000 in
set_option maxHeartbeats 4000000 in
theorem lawc_13 {p : Program} {l : Launch} {e : Env} {s : State} {m : MethodId} {below : List Frame} {meth : Method} {c : Code} {b L : Nat} {xs : Nat → Int32} {X XM : XT} {ao : Nat} (G : LawC p l s m meth c b L xs X XM ao) {Rel Rel' : S2 → S2 → Prop} (op : Op_turn Rel Rel') {t cells slots : Nat} (ht : 6 * t + 6 ≤ L) (hc : cells + 1 ≤ 601024) (hs : slots + 6 ≤ 7293034) {Sc Sm : S2} {fo : Nat → Int64} {H : Heap} {locs : List Loc} {ls : Array Slot} (hr : Rel Sc Sm) (hw : LH X XM ao s.heap.size s.heap Sc Sm fo H locs) (hl : lv_has ls 7 (lvL t b (X.2.2 0) (XM.2.2 0) ao)) (tail : LTail p l e s m below meth c b X XM ao Rel' t (cells + 1) (slots + 6)) : W p l e room_1 s m #[Value.ref b] below meth c H locs cells slots (lw_Z below #[Value.ref b] s) (F0 m 640 ls []) := by
  obtain ⟨hx, hb, hret, hml, hown, htbl, hX, hbl, hlocks, hgv⟩ := id G.1
  obtain ⟨-, CC, CM, hzx, D, hlt, hL⟩ := G
  obtain ⟨N, M, r, Sc1, Sm1, f1, f2, hr1⟩ := op Sc Sm hr  
  refine lv_aload_n hx hb dL_law_640 rfl (lv_at hl 2 rfl) ?_
  refine q_C (rest := []) (rm := rmX10_turn) (As := []) (o := (r, Sc1)) CC D hw tw4_79 tw4_80 tw4_81 tw1_1 tw4_82 hd_X10_turn rfl ⟨⟨rfl, rfl⟩, (Nat.le_of_ble_eq_true rfl), (Nat.le_of_ble_eq_true rfl)⟩ hl.1 rfl (Nat.le_of_ble_eq_true rfl) dL_law_641 (by show cells ≤ 601024; omega) (by show slots ≤ 7293034; omega) (c_X10_turn l X CC.2.2.2.1 (zc_ok X) N Sc  (r, Sc1) f1) (fun H locs hw => ?_)
  refine lv_aload_n hx hb dL_law_644 rfl (lv_at hl 3 rfl) ?_
  refine q_M (rest := [.int (iz r)]) (rm := rmX11_turn) (As := []) (o := (r, Sm1)) CM D hw tw7_96 tw7_97 tw7_98 tw1_12 tw7_99 hd_X11_turn rfl ⟨⟨rfl, rfl⟩, (Nat.le_of_ble_eq_true rfl), (Nat.le_of_ble_eq_true rfl)⟩ hl.1 rfl (Nat.le_of_ble_eq_true rfl) dL_law_645 (by show cells ≤ 601024; omega) (by show slots ≤ 7293034; omega) (c_X11_turn l XM CM.2.2.2.1 (zm_ok XM) M Sm  (r, Sm1) f2) (fun H locs hw => ?_)
  refine lv_icmp_eq (tgt := 1445) hx hb dL_law_648 (by decide) (fun _ => ?_) (fun h => absurd rfl h)
  refine W.widen (k := cells + 1) (n := slots + 6) (by omega) (by omega) ?_
  exact tail Sc1 Sm1 fo H locs ls hr1 hw hl
def Op_clip (Rel Rel' : S2 → S2 → Prop) : Prop := ∀ Sc Sm : S2, Rel Sc Sm → ∀ (a1 : Int), inR a1 → ∃ (N M : Nat) (r : Int) (Sc1 Sm1 : S2), f_X10_clip N Sc a1 = some (r, Sc1) ∧ f_X11_clip M Sm a1 = some (r, Sm1) ∧ Rel' Sc1 Sm1
set_option maxRecDepth 100000 in
set_option maxHeartbeats 4000000 in
theorem lawc_14 {p : Program} {l : Launch} {e : Env} {s : State} {m : MethodId} {below : List Frame} {meth : Method} {c : Code} {b L : Nat} {xs : Nat → Int32} {X XM : XT} {ao : Nat} (G : LawC p l s m meth c b L xs X XM ao) {Rel Rel' : S2 → S2 → Prop} (op : Op_clip Rel Rel') {t cells slots : Nat} (ht : 6 * t + 6 ≤ L) (hc : cells + 1 ≤ 601024) (hs : slots + 6 ≤ 7293034) {Sc Sm : S2} {fo : Nat → Int64} {H : Heap} {locs : List Loc} {ls : Array Slot} (hr : Rel Sc Sm) (hw : LH X XM ao s.heap.size s.heap Sc Sm fo H locs) (hl : lv_has ls 7 (lvL t b (X.2.2 0) (XM.2.2 0) ao)) (tail : LTail p l e s m below meth c b X XM ao Rel' t (cells + 1) (slots + 6)) : W p l e room_1 s m #[Value.ref b] below meth c H locs cells slots (lw_Z below #[Value.ref b] s) (F0 m 653 ls []) := by
  obtain ⟨hx, hb, hret, hml, hown, htbl, hX, hbl, hlocks, hgv⟩ := id G.1
  obtain ⟨-, CC, CM, hzx, D, hlt, hL⟩ := G
  obtain ⟨N, M, r, Sc1, Sm1, f1, f2, hr1⟩ := op Sc Sm hr ((xs (6 * t + 1)).toInt) (inR_toInt _)
  refine lv_aload_n hx hb dL_law_653 rfl (lv_at hl 2 rfl) ?_
  refine l_ld hx hb hX hbl hw.2.2.2 hL ht (k := 1) (by decide) hl dL_law_654 dL_law_655 dL_law_657 dL_law_658 dL_law_659 ?_
  refine q_C (rest := []) (rm := rmX10_clip) (As := [.int (iz (xs (6 * t + 1)).toInt)]) (o := (r, Sc1)) CC D hw tw4_83 tw4_84 tw4_85 tw1_1 tw4_86 hd_X10_clip rfl ⟨⟨rfl, rfl⟩, (Nat.le_of_ble_eq_true rfl), (Nat.le_of_ble_eq_true rfl)⟩ hl.1 rfl (Nat.le_of_ble_eq_true rfl) dL_law_660 (by show cells ≤ 601024; omega) (by show slots ≤ 7293034; omega) (c_X10_clip l X CC.2.2.2.1 (zc_ok X) N Sc ((xs (6 * t + 1)).toInt) (r, Sc1) f1) (fun H locs hw => ?_)
  refine lv_aload_n hx hb dL_law_663 rfl (lv_at hl 3 rfl) ?_
  refine l_ld hx hb hX hbl hw.2.2.2 hL ht (k := 1) (by decide) hl dL_law_664 dL_law_665 dL_law_667 dL_law_668 dL_law_669 ?_
  refine q_M (rest := [.int (iz r)]) (rm := rmX11_clip) (As := [.int (iz (xs (6 * t + 1)).toInt)]) (o := (r, Sm1)) CM D hw tw7_100 tw7_101 tw7_102 tw1_12 tw7_103 hd_X11_clip rfl ⟨⟨rfl, rfl⟩, (Nat.le_of_ble_eq_true rfl), (Nat.le_of_ble_eq_true rfl)⟩ hl.1 rfl (Nat.le_of_ble_eq_true rfl) dL_law_670 (by show cells ≤ 601024; omega) (by show slots ≤ 7293034; omega) (c_X11_clip l XM CM.2.2.2.1 (zm_ok XM) M Sm ((xs (6 * t + 1)).toInt) (r, Sm1) f2) (fun H locs hw => ?_)
  refine lv_icmp_eq (tgt := 1445) hx hb dL_law_673 (by decide) (fun _ => ?_) (fun h => absurd rfl h)
  refine W.widen (k := cells + 1) (n := slots + 6) (by omega) (by omega) ?_
  exact tail Sc1 Sm1 fo H locs ls hr1 hw hl
def Op_lift (Rel Rel' : S2 → S2 → Prop) : Prop := ∀ Sc Sm : S2, Rel Sc Sm → ∀ (a1 : Int), inR a1 → ∃ (N M : Nat) (r : Int) (Sc1 Sm1 : S2), f_X10_lift N Sc a1 = some (r, Sc1) ∧ f_X11_lift M Sm a1 = some (r, Sm1) ∧ Rel' Sc1 Sm1
set_option maxRecDepth 100000 in
set_option maxHeartbeats 4000000 in
theorem lawc_15 {p : Program} {l : Launch} {e : Env} {s : State} {m : MethodId} {below : List Frame} {meth : Method} {c : Code} {b L : Nat} {xs : Nat → Int32} {X XM : XT} {ao : Nat} (G : LawC p l s m meth c b L xs X XM ao) {Rel Rel' : S2 → S2 → Prop} (op : Op_lift Rel Rel') {t cells slots : Nat} (ht : 6 * t + 6 ≤ L) (hc : cells + 1 ≤ 601024) (hs : slots + 6 ≤ 7293034) {Sc Sm : S2} {fo : Nat → Int64} {H : Heap} {locs : List Loc} {ls : Array Slot} (hr : Rel Sc Sm) (hw : LH X XM ao s.heap.size s.heap Sc Sm fo H locs) (hl : lv_has ls 7 (lvL t b (X.2.2 0) (XM.2.2 0) ao)) (tail : LTail p l e s m below meth c b X XM ao Rel' t (cells + 1) (slots + 6)) : W p l e room_1 s m #[Value.ref b] below meth c H locs cells slots (lw_Z below #[Value.ref b] s) (F0 m 678 ls []) := by
  obtain ⟨hx, hb, hret, hml, hown, htbl, hX, hbl, hlocks, hgv⟩ := id G.1
  obtain ⟨-, CC, CM, hzx, D, hlt, hL⟩ := G
  obtain ⟨N, M, r, Sc1, Sm1, f1, f2, hr1⟩ := op Sc Sm hr ((xs (6 * t + 1)).toInt) (inR_toInt _)
  refine lv_aload_n hx hb dL_law_678 rfl (lv_at hl 2 rfl) ?_
  refine l_ld hx hb hX hbl hw.2.2.2 hL ht (k := 1) (by decide) hl dL_law_679 dL_law_680 dL_law_682 dL_law_683 dL_law_684 ?_
  refine q_C (rest := []) (rm := rmX10_lift) (As := [.int (iz (xs (6 * t + 1)).toInt)]) (o := (r, Sc1)) CC D hw tw4_87 tw4_88 tw4_89 tw1_1 tw4_90 hd_X10_lift rfl ⟨⟨rfl, rfl⟩, (Nat.le_of_ble_eq_true rfl), (Nat.le_of_ble_eq_true rfl)⟩ hl.1 rfl (Nat.le_of_ble_eq_true rfl) dL_law_685 (by show cells ≤ 601024; omega) (by show slots ≤ 7293034; omega) (c_X10_lift l X CC.2.2.2.1 (zc_ok X) N Sc ((xs (6 * t + 1)).toInt) (r, Sc1) f1) (fun H locs hw => ?_)
  refine lv_aload_n hx hb dL_law_688 rfl (lv_at hl 3 rfl) ?_
  refine l_ld hx hb hX hbl hw.2.2.2 hL ht (k := 1) (by decide) hl dL_law_689 dL_law_690 dL_law_692 dL_law_693 dL_law_694 ?_
  refine q_M (rest := [.int (iz r)]) (rm := rmX11_lift) (As := [.int (iz (xs (6 * t + 1)).toInt)]) (o := (r, Sm1)) CM D hw tw7_104 tw7_105 tw7_106 tw1_12 tw7_107 hd_X11_lift rfl ⟨⟨rfl, rfl⟩, (Nat.le_of_ble_eq_true rfl), (Nat.le_of_ble_eq_true rfl)⟩ hl.1 rfl (Nat.le_of_ble_eq_true rfl) dL_law_695 (by show cells ≤ 601024; omega) (by show slots ≤ 7293034; omega) (c_X11_lift l XM CM.2.2.2.1 (zm_ok XM) M Sm ((xs (6 * t + 1)).toInt) (r, Sm1) f2) (fun H locs hw => ?_)
  refine lv_icmp_eq (tgt := 1445) hx hb dL_law_698 (by decide) (fun _ => ?_) (fun h => absurd rfl h)
  refine W.widen (k := cells + 1) (n := slots + 6) (by omega) (by omega) ?_
  exact tail Sc1 Sm1 fo H locs ls hr1 hw hl
def Op_scale (Rel Rel' : S2 → S2 → Prop) : Prop := ∀ Sc Sm : S2, Rel Sc Sm → ∀ (a1 : Int) (a2 : Int), inR a1 → inR a2 → ∃ (N M : Nat) (r : Int) (Sc1 Sm1 : S2), f_X10_scale N Sc a1 a2 = some (r, Sc1) ∧ f_X11_scale M Sm a1 a2 = some (r, Sm1) ∧ Rel' Sc1 Sm1
set_option maxRecDepth 100000 in
set_option maxHeartbeats 4000000 in
theorem lawc_16 {p : Program} {l : Launch} {e : Env} {s : State} {m : MethodId} {below : List Frame} {meth : Method} {c : Code} {b L : Nat} {xs : Nat → Int32} {X XM : XT} {ao : Nat} (G : LawC p l s m meth c b L xs X XM ao) {Rel Rel' : S2 → S2 → Prop} (op : Op_scale Rel Rel') {t cells slots : Nat} (ht : 6 * t + 6 ≤ L) (hc : cells + 1 ≤ 601024) (hs : slots + 6 ≤ 7293034) {Sc Sm : S2} {fo : Nat → Int64} {H : Heap} {locs : List Loc} {ls : Array Slot} (hr : Rel Sc Sm) (hw : LH X XM ao s.heap.size s.heap Sc Sm fo H locs) (hl : lv_has ls 7 (lvL t b (X.2.2 0) (XM.2.2 0) ao)) (tail : LTail p l e s m below meth c b X XM ao Rel' t (cells + 1) (slots + 6)) : W p l e room_1 s m #[Value.ref b] below meth c H locs cells slots (lw_Z below #[Value.ref b] s) (F0 m 703 ls []) := by
  obtain ⟨hx, hb, hret, hml, hown, htbl, hX, hbl, hlocks, hgv⟩ := id G.1
  obtain ⟨-, CC, CM, hzx, D, hlt, hL⟩ := G
  obtain ⟨N, M, r, Sc1, Sm1, f1, f2, hr1⟩ := op Sc Sm hr ((xs (6 * t + 1)).toInt) ((xs (6 * t + 2)).toInt) (inR_toInt _) (inR_toInt _)
  refine lv_aload_n hx hb dL_law_703 rfl (lv_at hl 2 rfl) ?_
  refine l_ld hx hb hX hbl hw.2.2.2 hL ht (k := 1) (by decide) hl dL_law_704 dL_law_705 dL_law_707 dL_law_708 dL_law_709 ?_
  refine l_ld hx hb hX hbl hw.2.2.2 hL ht (k := 2) (by decide) hl dL_law_710 dL_law_711 dL_law_713 dL_law_714 dL_law_715 ?_
  refine q_C (rest := []) (rm := rmX10_scale) (As := [.int (iz (xs (6 * t + 1)).toInt), .int (iz (xs (6 * t + 2)).toInt)]) (o := (r, Sc1)) CC D hw tw4_91 tw4_92 tw4_93 tw1_1 tw4_94 hd_X10_scale rfl ⟨⟨rfl, rfl⟩, (Nat.le_of_ble_eq_true rfl), (Nat.le_of_ble_eq_true rfl)⟩ hl.1 rfl (Nat.le_of_ble_eq_true rfl) dL_law_716 (by show cells ≤ 601024; omega) (by show slots ≤ 7293034; omega) (c_X10_scale l X CC.2.2.2.1 (zc_ok X) N Sc ((xs (6 * t + 1)).toInt) ((xs (6 * t + 2)).toInt) (r, Sc1) f1) (fun H locs hw => ?_)
  refine lv_aload_n hx hb dL_law_719 rfl (lv_at hl 3 rfl) ?_
  refine l_ld hx hb hX hbl hw.2.2.2 hL ht (k := 1) (by decide) hl dL_law_720 dL_law_721 dL_law_723 dL_law_724 dL_law_725 ?_
  refine l_ld hx hb hX hbl hw.2.2.2 hL ht (k := 2) (by decide) hl dL_law_726 dL_law_727 dL_law_729 dL_law_730 dL_law_731 ?_
  refine q_M (rest := [.int (iz r)]) (rm := rmX11_scale) (As := [.int (iz (xs (6 * t + 1)).toInt), .int (iz (xs (6 * t + 2)).toInt)]) (o := (r, Sm1)) CM D hw tw7_108 tw7_109 tw7_110 tw1_12 tw7_111 hd_X11_scale rfl ⟨⟨rfl, rfl⟩, (Nat.le_of_ble_eq_true rfl), (Nat.le_of_ble_eq_true rfl)⟩ hl.1 rfl (Nat.le_of_ble_eq_true rfl) dL_law_732 (by show cells ≤ 601024; omega) (by show slots ≤ 7293034; omega) (c_X11_scale l XM CM.2.2.2.1 (zm_ok XM) M Sm ((xs (6 * t + 1)).toInt) ((xs (6 * t + 2)).toInt) (r, Sm1) f2) (fun H locs hw => ?_)
  refine lv_icmp_eq (tgt := 1445) hx hb dL_law_735 (by decide) (fun _ => ?_) (fun h => absurd rfl h)
  refine W.widen (k := cells + 1) (n := slots + 6) (by omega) (by omega) ?_
  exact tail Sc1 Sm1 fo H locs ls hr1 hw hl
def Op_set (Rel Rel' : S2 → S2 → Prop) : Prop := ∀ Sc Sm : S2, Rel Sc Sm → ∀ (a1 : Int) (a2 : Int), inR a1 → inR a2 → ∃ (N M : Nat) (r : Int) (Sc1 Sm1 : S2), f_X10_set N Sc a1 a2 = some (r, Sc1) ∧ f_X11_set M Sm a1 a2 = some (r, Sm1) ∧ Rel' Sc1 Sm1
set_option maxRecDepth 100000 in
set_option maxHeartbeats 4000000 in
theorem lawc_17 {p : Program} {l : Launch} {e : Env} {s : State} {m : MethodId} {below : List Frame} {meth : Method} {c : Code} {b L : Nat} {xs : Nat → Int32} {X XM : XT} {ao : Nat} (G : LawC p l s m meth c b L xs X XM ao) {Rel Rel' : S2 → S2 → Prop} (op : Op_set Rel Rel') {t cells slots : Nat} (ht : 6 * t + 6 ≤ L) (hc : cells + 1 ≤ 601024) (hs : slots + 6 ≤ 7293034) {Sc Sm : S2} {fo : Nat → Int64} {H : Heap} {locs : List Loc} {ls : Array Slot} (hr : Rel Sc Sm) (hw : LH X XM ao s.heap.size s.heap Sc Sm fo H locs) (hl : lv_has ls 7 (lvL t b (X.2.2 0) (XM.2.2 0) ao)) (tail : LTail p l e s m below meth c b X XM ao Rel' t (cells + 1) (slots + 6)) : W p l e room_1 s m #[Value.ref b] below meth c H locs cells slots (lw_Z below #[Value.ref b] s) (F0 m 740 ls []) := by
  obtain ⟨hx, hb, hret, hml, hown, htbl, hX, hbl, hlocks, hgv⟩ := id G.1
  obtain ⟨-, CC, CM, hzx, D, hlt, hL⟩ := G
  obtain ⟨N, M, r, Sc1, Sm1, f1, f2, hr1⟩ := op Sc Sm hr ((xs (6 * t + 1)).toInt) ((xs (6 * t + 2)).toInt) (inR_toInt _) (inR_toInt _)
  refine lv_aload_n hx hb dL_law_740 rfl (lv_at hl 2 rfl) ?_
  refine l_ld hx hb hX hbl hw.2.2.2 hL ht (k := 1) (by decide) hl dL_law_741 dL_law_742 dL_law_744 dL_law_745 dL_law_746 ?_
  refine l_ld hx hb hX hbl hw.2.2.2 hL ht (k := 2) (by decide) hl dL_law_747 dL_law_748 dL_law_750 dL_law_751 dL_law_752 ?_
  refine q_C (rest := []) (rm := rmX10_set) (As := [.int (iz (xs (6 * t + 1)).toInt), .int (iz (xs (6 * t + 2)).toInt)]) (o := (r, Sc1)) CC D hw tw4_95 tw4_96 tw4_97 tw1_1 tw4_98 hd_X10_set rfl ⟨⟨rfl, rfl⟩, (Nat.le_of_ble_eq_true rfl), (Nat.le_of_ble_eq_true rfl)⟩ hl.1 rfl (Nat.le_of_ble_eq_true rfl) dL_law_753 (by show cells ≤ 601024; omega) (by show slots ≤ 7293034; omega) (c_X10_set l X CC.2.2.2.1 (zc_ok X) N Sc ((xs (6 * t + 1)).toInt) ((xs (6 * t + 2)).toInt) (r, Sc1) f1) (fun H locs hw => ?_)
  refine lv_aload_n hx hb dL_law_756 rfl (lv_at hl 3 rfl) ?_
  refine l_ld hx hb hX hbl hw.2.2.2 hL ht (k := 1) (by decide) hl dL_law_757 dL_law_758 dL_law_760 dL_law_761 dL_law_762 ?_
  refine l_ld hx hb hX hbl hw.2.2.2 hL ht (k := 2) (by decide) hl dL_law_763 dL_law_764 dL_law_766 dL_law_767 dL_law_768 ?_
  refine q_M (rest := [.int (iz r)]) (rm := rmX11_set) (As := [.int (iz (xs (6 * t + 1)).toInt), .int (iz (xs (6 * t + 2)).toInt)]) (o := (r, Sm1)) CM D hw tw7_112 tw7_113 tw7_114 tw1_12 tw7_115 hd_X11_set rfl ⟨⟨rfl, rfl⟩, (Nat.le_of_ble_eq_true rfl), (Nat.le_of_ble_eq_true rfl)⟩ hl.1 rfl (Nat.le_of_ble_eq_true rfl) dL_law_769 (by show cells ≤ 601024; omega) (by show slots ≤ 7293034; omega) (c_X11_set l XM CM.2.2.2.1 (zm_ok XM) M Sm ((xs (6 * t + 1)).toInt) ((xs (6 * t + 2)).toInt) (r, Sm1) f2) (fun H locs hw => ?_)
  refine lv_icmp_eq (tgt := 1445) hx hb dL_law_772 (by decide) (fun _ => ?_) (fun h => absurd rfl h)
  refine W.widen (k := cells + 1) (n := slots + 6) (by omega) (by omega) ?_
  exact tail Sc1 Sm1 fo H locs ls hr1 hw hl
def Op_noise (Rel Rel' : S2 → S2 → Prop) : Prop := ∀ Sc Sm : S2, Rel Sc Sm → ∀ (a1 : Int), inR a1 → ∃ (N M : Nat) (r : Int) (Sc1 Sm1 : S2), f_X10_noise N Sc a1 = some (r, Sc1) ∧ f_X11_noise M Sm a1 = some (r, Sm1) ∧ Rel' Sc1 Sm1
set_option maxRecDepth 100000 in
set_option maxHeartbeats 4000000 in
theorem lawc_18 {p : Program} {l : Launch} {e : Env} {s : State} {m : MethodId} {below : List Frame} {meth : Method} {c : Code} {b L : Nat} {xs : Nat → Int32} {X XM : XT} {ao : Nat} (G : LawC p l s m meth c b L xs X XM ao) {Rel Rel' : S2 → S2 → Prop} (op : Op_noise Rel Rel') {t cells slots : Nat} (ht : 6 * t + 6 ≤ L) (hc : cells + 1 ≤ 601024) (hs : slots + 6 ≤ 7293034) {Sc Sm : S2} {fo : Nat → Int64} {H : Heap} {locs : List Loc} {ls : Array Slot} (hr : Rel Sc Sm) (hw : LH X XM ao s.heap.size s.heap Sc Sm fo H locs) (hl : lv_has ls 7 (lvL t b (X.2.2 0) (XM.2.2 0) ao)) (tail : LTail p l e s m below meth c b X XM ao Rel' t (cells + 1) (slots + 6)) : W p l e room_1 s m #[Value.ref b] below meth c H locs cells slots (lw_Z below #[Value.ref b] s) (F0 m 777 ls []) := by
  obtain ⟨hx, hb, hret, hml, hown, htbl, hX, hbl, hlocks, hgv⟩ := id G.1
  obtain ⟨-, CC, CM, hzx, D, hlt, hL⟩ := G
  obtain ⟨N, M, r, Sc1, Sm1, f1, f2, hr1⟩ := op Sc Sm hr ((xs (6 * t + 1)).toInt) (inR_toInt _)
  refine lv_aload_n hx hb dL_law_777 rfl (lv_at hl 2 rfl) ?_
  refine l_ld hx hb hX hbl hw.2.2.2 hL ht (k := 1) (by decide) hl dL_law_778 dL_law_779 dL_law_781 dL_law_782 dL_law_783 ?_
  refine q_C (rest := []) (rm := rmX10_noise) (As := [.int (iz (xs (6 * t + 1)).toInt)]) (o := (r, Sc1)) CC D hw tw4_99 tw4_100 tw4_101 tw1_1 tw4_102 hd_X10_noise rfl ⟨⟨rfl, rfl⟩, (Nat.le_of_ble_eq_true rfl), (Nat.le_of_ble_eq_true rfl)⟩ hl.1 rfl (Nat.le_of_ble_eq_true rfl) dL_law_784 (by show cells ≤ 601024; omega) (by show slots ≤ 7293034; omega) (c_X10_noise l X CC.2.2.2.1 (zc_ok X) N Sc ((xs (6 * t + 1)).toInt) (r, Sc1) f1) (fun H locs hw => ?_)
  refine lv_aload_n hx hb dL_law_787 rfl (lv_at hl 3 rfl) ?_
  refine l_ld hx hb hX hbl hw.2.2.2 hL ht (k := 1) (by decide) hl dL_law_788 dL_law_789 dL_law_791 dL_law_792 dL_law_793 ?_
  refine q_M (rest := [.int (iz r)]) (rm := rmX11_noise) (As := [.int (iz (xs (6 * t + 1)).toInt)]) (o := (r, Sm1)) CM D hw tw7_116 tw7_117 tw7_118 tw1_12 tw7_119 hd_X11_noise rfl ⟨⟨rfl, rfl⟩, (Nat.le_of_ble_eq_true rfl), (Nat.le_of_ble_eq_true rfl)⟩ hl.1 rfl (Nat.le_of_ble_eq_true rfl) dL_law_794 (by show cells ≤ 601024; omega) (by show slots ≤ 7293034; omega) (c_X11_noise l XM CM.2.2.2.1 (zm_ok XM) M Sm ((xs (6 * t + 1)).toInt) (r, Sm1) f2) (fun H locs hw => ?_)
  refine lv_icmp_eq (tgt := 1445) hx hb dL_law_797 (by decide) (fun _ => ?_) (fun h => absurd rfl h)
  refine W.widen (k := cells + 1) (n := slots + 6) (by omega) (by omega) ?_
  exact tail Sc1 Sm1 fo H locs ls hr1 hw hl
def Op_cut (Rel Rel' : S2 → S2 → Prop) : Prop := ∀ Sc Sm : S2, Rel Sc Sm → ∀ (a1 : Int) (a2 : Int), inR a1 → inR a2 → ∃ (N M : Nat) (r : Int) (Sc1 Sm1 : S2), f_X10_cut N Sc a1 a2 = some (r, Sc1) ∧ f_X11_cut M Sm a1 a2 = some (r, Sm1) ∧ Rel' Sc1 Sm1
set_option maxRecDepth 100000 in
set_option maxHeartbeats 4000000 in
theorem lawc_19 {p : Program} {l : Launch} {e : Env} {s : State} {m : MethodId} {below : List Frame} {meth : Method} {c : Code} {b L : Nat} {xs : Nat → Int32} {X XM : XT} {ao : Nat} (G : LawC p l s m meth c b L xs X XM ao) {Rel Rel' : S2 → S2 → Prop} (op : Op_cut Rel Rel') {t cells slots : Nat} (ht : 6 * t + 6 ≤ L) (hc : cells + 1 ≤ 601024) (hs : slots + 6 ≤ 7293034) {Sc Sm : S2} {fo : Nat → Int64} {H : Heap} {locs : List Loc} {ls : Array Slot} (hr : Rel Sc Sm) (hw : LH X XM ao s.heap.size s.heap Sc Sm fo H locs) (hl : lv_has ls 7 (lvL t b (X.2.2 0) (XM.2.2 0) ao)) (tail : LTail p l e s m below meth c b X XM ao Rel' t (cells + 1) (slots + 6)) : W p l e room_1 s m #[Value.ref b] below meth c H locs cells slots (lw_Z below #[Value.ref b] s) (F0 m 802 ls []) := by
  obtain ⟨hx, hb, hret, hml, hown, htbl, hX, hbl, hlocks, hgv⟩ := id G.1
  obtain ⟨-, CC, CM, hzx, D, hlt, hL⟩ := G
  obtain ⟨N, M, r, Sc1, Sm1, f1, f2, hr1⟩ := op Sc Sm hr ((xs (6 * t + 1)).toInt) ((xs (6 * t + 2)).toInt) (inR_toInt _) (inR_toInt _)
  refine lv_aload_n hx hb dL_law_802 rfl (lv_at hl 2 rfl) ?_
  refine l_ld hx hb hX hbl hw.2.2.2 hL ht (k := 1) (by decide) hl dL_law_803 dL_law_804 dL_law_806 dL_law_807 dL_law_808 ?_
  refine l_ld hx hb hX hbl hw.2.2.2 hL ht (k := 2) (by decide) hl dL_law_809 dL_law_810 dL_law_812 dL_law_813 dL_law_814 ?_
  refine q_C (rest := []) (rm := rmX10_cut) (As := [.int (iz (xs (6 * t + 1)).toInt), .int (iz (xs (6 * t + 2)).toInt)]) (o := (r, Sc1)) CC D hw tw4_103 tw4_104 tw4_105 tw1_1 tw4_106 hd_X10_cut rfl ⟨⟨rfl, rfl⟩, (Nat.le_of_ble_eq_true rfl), (Nat.le_of_ble_eq_true rfl)⟩ hl.1 rfl (Nat.le_of_ble_eq_true rfl) dL_law_815 (by show cells ≤ 601024; omega) (by show slots ≤ 7293034; omega) (c_X10_cut l X CC.2.2.2.1 (zc_ok X) N Sc ((xs (6 * t + 1)).toInt) ((xs (6 * t + 2)).toInt) (r, Sc1) f1) (fun H locs hw => ?_)
  refine lv_aload_n hx hb dL_law_818 rfl (lv_at hl 3 rfl) ?_
  refine l_ld hx hb hX hbl hw.2.2.2 hL ht (k := 1) (by decide) hl dL_law_819 dL_law_820 dL_law_822 dL_law_823 dL_law_824 ?_
  refine l_ld hx hb hX hbl hw.2.2.2 hL ht (k := 2) (by decide) hl dL_law_825 dL_law_826 dL_law_828 dL_law_829 dL_law_830 ?_
  refine q_M (rest := [.int (iz r)]) (rm := rmX11_cut) (As := [.int (iz (xs (6 * t + 1)).toInt), .int (iz (xs (6 * t + 2)).toInt)]) (o := (r, Sm1)) CM D hw tw7_120 tw7_121 tw7_122 tw1_12 tw7_123 hd_X11_cut rfl ⟨⟨rfl, rfl⟩, (Nat.le_of_ble_eq_true rfl), (Nat.le_of_ble_eq_true rfl)⟩ hl.1 rfl (Nat.le_of_ble_eq_true rfl) dL_law_831 (by show cells ≤ 601024; omega) (by show slots ≤ 7293034; omega) (c_X11_cut l XM CM.2.2.2.1 (zm_ok XM) M Sm ((xs (6 * t + 1)).toInt) ((xs (6 * t + 2)).toInt) (r, Sm1) f2) (fun H locs hw => ?_)
  refine lv_icmp_eq (tgt := 1445) hx hb dL_law_834 (by decide) (fun _ => ?_) (fun h => absurd rfl h)
  refine W.widen (k := cells + 1) (n := slots + 6) (by omega) (by omega) ?_
  exact tail Sc1 Sm1 fo H locs ls hr1 hw hl
def Op_ways (Rel Rel' : S2 → S2 → Prop) : Prop := ∀ Sc Sm : S2, Rel Sc Sm → ∀ (a1 : Int) (a2 : Int64), inR a1 → ∃ (N M : Nat) (r : Int) (Sc1 Sm1 : S2), f_X10_ways N Sc a1 a2 = some (r, Sc1) ∧ f_X11_ways M Sm a1 a2 = some (r, Sm1) ∧ Rel' Sc1 Sm1
set_option maxRecDepth 100000 in
set_option maxHeartbeats 4000000 in
theorem lawc_20 {p : Program} {l : Launch} {e : Env} {s : State} {m : MethodId} {below : List Frame} {meth : Method} {c : Code} {b L : Nat} {xs : Nat → Int32} {X XM : XT} {ao : Nat} (G : LawC p l s m meth c b L xs X XM ao) {Rel Rel' : S2 → S2 → Prop} (op : Op_ways Rel Rel') {t cells slots : Nat} (ht : 6 * t + 6 ≤ L) (hc : cells + 1 ≤ 601024) (hs : slots + 6 ≤ 7293034) {Sc Sm : S2} {fo : Nat → Int64} {H : Heap} {locs : List Loc} {ls : Array Slot} (hr : Rel Sc Sm) (hw : LH X XM ao s.heap.size s.heap Sc Sm fo H locs) (hl : lv_has ls 7 (lvL t b (X.2.2 0) (XM.2.2 0) ao)) (tail : LTail p l e s m below meth c b X XM ao Rel' t (cells + 1) (slots + 6)) : W p l e room_1 s m #[Value.ref b] below meth c H locs cells slots (lw_Z below #[Value.ref b] s) (F0 m 839 ls []) := by
  obtain ⟨hx, hb, hret, hml, hown, htbl, hX, hbl, hlocks, hgv⟩ := id G.1
  obtain ⟨-, CC, CM, hzx, D, hlt, hL⟩ := G
  obtain ⟨N, M, r, Sc1, Sm1, f1, f2, hr1⟩ := op Sc Sm hr ((xs (6 * t + 1)).toInt) (((((iz ((xs (6 * t + 2)).toInt)).toInt64) <<< ((32 : Int32).toInt64 &&& 63)) ||| (((iz ((xs (6 * t + 3)).toInt)).toInt64) &&& (4294967295 : Int64)))) (inR_toInt _)
  refine lv_aload_n hx hb dL_law_839 rfl (lv_at hl 2 rfl) ?_
  refine l_ld hx hb hX hbl hw.2.2.2 hL ht (k := 1) (by decide) hl dL_law_840 dL_law_841 dL_law_843 dL_law_844 dL_law_845 ?_
  refine l_ld hx hb hX hbl hw.2.2.2 hL ht (k := 2) (by decide) hl dL_law_846 dL_law_847 dL_law_849 dL_law_850 dL_law_851 ?_
  refine lv_i2l (v := ((iz ((xs (6 * t + 2)).toInt)).toInt64)) hx hb dL_law_852 rfl ?_
  refine lv_bipush (v := 32) hx hb dL_law_853 (by decide) ?_
  refine lv_lshl (v := (((iz ((xs (6 * t + 2)).toInt)).toInt64) <<< ((32 : Int32).toInt64 &&& 63))) hx hb dL_law_855 rfl ?_
  refine l_ld hx hb hX hbl hw.2.2.2 hL ht (k := 3) (by decide) hl dL_law_856 dL_law_857 dL_law_859 dL_law_860 dL_law_861 ?_
  refine lv_i2l (v := ((iz ((xs (6 * t + 3)).toInt)).toInt64)) hx hb dL_law_862 rfl ?_
  refine lv_ldc2 (v := 4294967295) hx hb hown (CC.1.2.2.2.2 _ tw8_115) dL_law_863 ?_
  refine lv_land hx hb dL_law_866 ?_
  refine lv_lor hx hb dL_law_867 ?_
  refine q_C (rest := []) (rm := rmX10_ways) (As := [.int (iz (xs (6 * t + 1)).toInt), .long ((((iz ((xs (6 * t + 2)).toInt)).toInt64) <<< ((32 : Int32).toInt64 &&& 63)) ||| (((iz ((xs (6 * t + 3)).toInt)).toInt64) &&& (4294967295 : Int64)))]) (o := (r, Sc1)) CC D hw tw4_107 tw4_108 tw4_109 tw1_1 tw4_110 hd_X10_ways rfl ⟨⟨rfl, rfl⟩, (Nat.le_of_ble_eq_true rfl), (Nat.le_of_ble_eq_true rfl)⟩ hl.1 rfl (Nat.le_of_ble_eq_true rfl) dL_law_868 (by show cells ≤ 601024; omega) (by show slots ≤ 7293034; omega) (c_X10_ways l X CC.2.2.2.1 (zc_ok X) N Sc ((xs (6 * t + 1)).toInt) (((((iz ((xs (6 * t + 2)).toInt)).toInt64) <<< ((32 : Int32).toInt64 &&& 63)) ||| (((iz ((xs (6 * t + 3)).toInt)).toInt64) &&& (4294967295 : Int64)))) (r, Sc1) f1) (fun H locs hw => ?_)
  refine lv_aload_n hx hb dL_law_871 rfl (lv_at hl 3 rfl) ?_
  refine l_ld hx hb hX hbl hw.2.2.2 hL ht (k := 1) (by decide) hl dL_law_872 dL_law_873 dL_law_875 dL_law_876 dL_law_877 ?_
  refine l_ld hx hb hX hbl hw.2.2.2 hL ht (k := 2) (by decide) hl dL_law_878 dL_law_879 dL_law_881 dL_law_882 dL_law_883 ?_
  refine lv_i2l (v := ((iz ((xs (6 * t + 2)).toInt)).toInt64)) hx hb dL_law_884 rfl ?_
  refine lv_bipush (v := 32) hx hb dL_law_885 (by decide) ?_
  refine lv_lshl (v := (((iz ((xs (6 * t + 2)).toInt)).toInt64) <<< ((32 : Int32).toInt64 &&& 63))) hx hb dL_law_887 rfl ?_
  refine l_ld hx hb hX hbl hw.2.2.2 hL ht (k := 3) (by decide) hl dL_law_888 dL_law_889 dL_law_891 dL_law_892 dL_law_893 ?_
  refine lv_i2l (v := ((iz ((xs (6 * t + 3)).toInt)).toInt64)) hx hb dL_law_894 rfl ?_
  refine lv_ldc2 (v := 4294967295) hx hb hown (CC.1.2.2.2.2 _ tw8_115) dL_law_895 ?_
  refine lv_land hx hb dL_law_898 ?_
  refine lv_lor hx hb dL_law_899 ?_
  refine q_M (rest := [.int (iz r)]) (rm := rmX11_ways) (As := [.int (iz (xs (6 * t + 1)).toInt), .long ((((iz ((xs (6 * t + 2)).toInt)).toInt64) <<< ((32 : Int32).toInt64 &&& 63)) ||| (((iz ((xs (6 * t + 3)).toInt)).toInt64) &&& (4294967295 : Int64)))]) (o := (r, Sm1)) CM D hw tw7_124 tw7_125 tw7_126 tw1_12 tw7_127 hd_X11_ways rfl ⟨⟨rfl, rfl⟩, (Nat.le_of_ble_eq_true rfl), (Nat.le_of_ble_eq_true rfl)⟩ hl.1 rfl (Nat.le_of_ble_eq_true rfl) dL_law_900 (by show cells ≤ 601024; omega) (by show slots ≤ 7293034; omega) (c_X11_ways l XM CM.2.2.2.1 (zm_ok XM) M Sm ((xs (6 * t + 1)).toInt) (((((iz ((xs (6 * t + 2)).toInt)).toInt64) <<< ((32 : Int32).toInt64 &&& 63)) ||| (((iz ((xs (6 * t + 3)).toInt)).toInt64) &&& (4294967295 : Int64)))) (r, Sm1) f2) (fun H locs hw => ?_)
  refine lv_icmp_eq (tgt := 1445) hx hb dL_law_903 (by decide) (fun _ => ?_) (fun h => absurd rfl h)
  refine W.widen (k := cells + 1) (n := slots + 6) (by omega) (by omega) ?_
  exact tail Sc1 Sm1 fo H locs ls hr1 hw hl
def Op_status (Rel Rel' : S2 → S2 → Prop) : Prop := ∀ Sc Sm : S2, Rel Sc Sm → ∀ (a1 : Int), inR a1 → ∃ (N M : Nat) (r : Int) (Sc1 Sm1 : S2), f_X10_status N Sc a1 = some (r, Sc1) ∧ f_X11_status M Sm a1 = some (r, Sm1) ∧ Rel' Sc1 Sm1
set_option maxRecDepth 100000 in
set_option maxHeartbeats 4000000 in
theorem lawc_21 {p : Program} {l : Launch} {e : Env} {s : State} {m : MethodId} {below : List Frame} {meth : Method} {c : Code} {b L : Nat} {xs : Nat → Int32} {X XM : XT} {ao : Nat} (G : LawC p l s m meth c b L xs X XM ao) {Rel Rel' : S2 → S2 → Prop} (op : Op_status Rel Rel') {t cells slots : Nat} (ht : 6 * t + 6 ≤ L) (hc : cells + 1 ≤ 601024) (hs : slots + 6 ≤ 7293034) {Sc Sm : S2} {fo : Nat → Int64} {H : Heap} {locs : List Loc} {ls : Array Slot} (hr : Rel Sc Sm) (hw : LH X XM ao s.heap.size s.heap Sc Sm fo H locs) (hl : lv_has ls 7 (lvL t b (X.2.2 0) (XM.2.2 0) ao)) (tail : LTail p l e s m below meth c b X XM ao Rel' t (cells + 1) (slots + 6)) : W p l e room_1 s m #[Value.ref b] below meth c H locs cells slots (lw_Z below #[Value.ref b] s) (F0 m 908 ls []) := by
  obtain ⟨hx, hb, hret, hml, hown, htbl, hX, hbl, hlocks, hgv⟩ := id G.1
  obtain ⟨-, CC, CM, hzx, D, hlt, hL⟩ := G
  obtain ⟨N, M, r, Sc1, Sm1, f1, f2, hr1⟩ := op Sc Sm hr ((xs (6 * t + 1)).toInt) (inR_toInt _)
  refine lv_aload_n hx hb dL_law_908 rfl (lv_at hl 2 rfl) ?_
  refine l_ld hx hb hX hbl hw.2.2.2 hL ht (k := 1) (by decide) hl dL_law_909 dL_law_910 dL_law_912 dL_law_913 dL_law_914 ?_
  refine q_C (rest := []) (rm := rmX10_status) (As := [.int (iz (xs (6 * t + 1)).toInt)]) (o := (r, Sc1)) CC D hw tw4_121 tw4_122 tw4_123 tw1_1 tw4_124 hd_X10_status rfl ⟨⟨rfl, rfl⟩, (Nat.le_of_ble_eq_true rfl), (Nat.le_of_ble_eq_true rfl)⟩ hl.1 rfl (Nat.le_of_ble_eq_true rfl) dL_law_915 (by show cells ≤ 601024; omega) (by show slots ≤ 7293034; omega) (c_X10_status l X CC.2.2.2.1 (zc_ok X) N Sc ((xs (6 * t + 1)).toInt) (r, Sc1) f1) (fun H locs hw => ?_)
  refine lv_aload_n hx hb dL_law_918 rfl (lv_at hl 3 rfl) ?_
  refine l_ld hx hb hX hbl hw.2.2.2 hL ht (k := 1) (by decide) hl dL_law_919 dL_law_920 dL_law_922 dL_law_923 dL_law_924 ?_
  refine q_M (rest := [.int (iz r)]) (rm := rmX11_status) (As := [.int (iz (xs (6 * t + 1)).toInt)]) (o := (r, Sm1)) CM D hw tw7_138 tw7_139 tw7_140 tw1_12 tw7_141 hd_X11_status rfl ⟨⟨rfl, rfl⟩, (Nat.le_of_ble_eq_true rfl), (Nat.le_of_ble_eq_true rfl)⟩ hl.1 rfl (Nat.le_of_ble_eq_true rfl) dL_law_925 (by show cells ≤ 601024; omega) (by show slots ≤ 7293034; omega) (c_X11_status l XM CM.2.2.2.1 (zm_ok XM) M Sm ((xs (6 * t + 1)).toInt) (r, Sm1) f2) (fun H locs hw => ?_)
  refine lv_icmp_eq (tgt := 1445) hx hb dL_law_928 (by decide) (fun _ => ?_) (fun h => absurd rfl h)
  refine W.widen (k := cells + 1) (n := slots + 6) (by omega) (by omega) ?_
  exact tail Sc1 Sm1 fo H locs ls hr1 hw hl
def Op_undo (Rel Rel' : S2 → S2 → Prop) : Prop := ∀ Sc Sm : S2, Rel Sc Sm → ∃ (N M : Nat) (r : Int) (Sc1 Sm1 : S2), f_X10_undo N Sc = some (r, Sc1) ∧ f_X11_undo M Sm = some (r, Sm1) ∧ Rel' Sc1 Sm1
set_option maxRecDepth 100000 in
set_option maxHeartbeats 4000000 in
theorem lawc_22 {p : Program} {l : Launch} {e : Env} {s : State} {m : MethodId} {below : List Frame} {meth : Method} {c : Code} {b L : Nat} {xs : Nat → Int32} {X XM : XT} {ao : Nat} (G : LawC p l s m meth c b L xs X XM ao) {Rel Rel' : S2 → S2 → Prop} (op : Op_undo Rel Rel') {t cells slots : Nat} (ht : 6 * t + 6 ≤ L) (hc : cells + 1 ≤ 601024) (hs : slots + 6 ≤ 7293034) {Sc Sm : S2} {fo : Nat → Int64} {H : Heap} {locs : List Loc} {ls : Array Slot} (hr : Rel Sc Sm) (hw : LH X XM ao s.heap.size s.heap Sc Sm fo H locs) (hl : lv_has ls 7 (lvL t b (X.2.2 0) (XM.2.2 0) ao)) (tail : LTail p l e s m below meth c b X XM ao Rel' t (cells + 1) (slots + 6)) : W p l e room_1 s m #[Value.ref b] below meth c H locs cells slots (lw_Z below #[Value.ref b] s) (F0 m 933 ls []) := by
  obtain ⟨hx, hb, hret, hml, hown, htbl, hX, hbl, hlocks, hgv⟩ := id G.1
  obtain ⟨-, CC, CM, hzx, D, hlt, hL⟩ := G
  obtain ⟨N, M, r, Sc1, Sm1, f1, f2, hr1⟩ := op Sc Sm hr  
  refine lv_aload_n hx hb dL_law_933 rfl (lv_at hl 2 rfl) ?_
  refine q_C (rest := []) (rm := rmX10_undo) (As := []) (o := (r, Sc1)) CC D hw tw4_125 tw4_126 tw4_127 tw1_1 tw4_128 hd_X10_undo rfl ⟨⟨rfl, rfl⟩, (Nat.le_of_ble_eq_true rfl), (Nat.le_of_ble_eq_true rfl)⟩ hl.1 rfl (Nat.le_of_ble_eq_true rfl) dL_law_934 (by show cells ≤ 601024; omega) (by show slots ≤ 7293034; omega) (c_X10_undo l X CC.2.2.2.1 (zc_ok X) N Sc  (r, Sc1) f1) (fun H locs hw => ?_)
  refine lv_aload_n hx hb dL_law_937 rfl (lv_at hl 3 rfl) ?_
  refine q_M (rest := [.int (iz r)]) (rm := rmX11_undo) (As := []) (o := (r, Sm1)) CM D hw tw7_142 tw7_143 tw7_144 tw1_12 tw7_145 hd_X11_undo rfl ⟨⟨rfl, rfl⟩, (Nat.le_of_ble_eq_true rfl), (Nat.le_of_ble_eq_true rfl)⟩ hl.1 rfl (Nat.le_of_ble_eq_true rfl) dL_law_938 (by show cells ≤ 601024; omega) (by show slots ≤ 7293034; omega) (c_X11_undo l XM CM.2.2.2.1 (zm_ok XM) M Sm  (r, Sm1) f2) (fun H locs hw => ?_)
  refine lv_icmp_eq (tgt := 1445) hx hb dL_law_941 (by decide) (fun _ => ?_) (fun h => absurd rfl h)
  refine W.widen (k := cells + 1) (n := slots + 6) (by omega) (by omega) ?_
  exact tail Sc1 Sm1 fo H locs ls hr1 hw hl
def Op_log (Rel Rel' : S2 → S2 → Prop) : Prop := ∀ Sc Sm : S2, Rel Sc Sm → ∀ (a1 : Int) (a2 : Int), inR a1 → inR a2 → ∃ (N M : Nat) (r : Int) (Sc1 Sm1 : S2), f_X10_log N Sc a1 a2 = some (r, Sc1) ∧ f_X11_log M Sm a1 a2 = some (r, Sm1) ∧ Rel' Sc1 Sm1
set_option maxRecDepth 100000 in
set_option maxHeartbeats 4000000 in
theorem lawc_23 {p : Program} {l : Launch} {e : Env} {s : State} {m : MethodId} {below : List Frame} {meth : Method} {c : Code} {b L : Nat} {xs : Nat → Int32} {X XM : XT} {ao : Nat} (G : LawC p l s m meth c b L xs X XM ao) {Rel Rel' : S2 → S2 → Prop} (op : Op_log Rel Rel') {t cells slots : Nat} (ht : 6 * t + 6 ≤ L) (hc : cells + 1 ≤ 601024) (hs : slots + 6 ≤ 7293034) {Sc Sm : S2} {fo : Nat → Int64} {H : Heap} {locs : List Loc} {ls : Array Slot} (hr : Rel Sc Sm) (hw : LH X XM ao s.heap.size s.heap Sc Sm fo H locs) (hl : lv_has ls 7 (lvL t b (X.2.2 0) (XM.2.2 0) ao)) (tail : LTail p l e s m below meth c b X XM ao Rel' t (cells + 1) (slots + 6)) : W p l e room_1 s m #[Value.ref b] below meth c H locs cells slots (lw_Z below #[Value.ref b] s) (F0 m 946 ls []) := by
  obtain ⟨hx, hb, hret, hml, hown, htbl, hX, hbl, hlocks, hgv⟩ := id G.1
  obtain ⟨-, CC, CM, hzx, D, hlt, hL⟩ := G
  obtain ⟨N, M, r, Sc1, Sm1, f1, f2, hr1⟩ := op Sc Sm hr ((xs (6 * t + 1)).toInt) ((xs (6 * t + 2)).toInt) (inR_toInt _) (inR_toInt _)
  refine lv_aload_n hx hb dL_law_946 rfl (lv_at hl 2 rfl) ?_
  refine l_ld hx hb hX hbl hw.2.2.2 hL ht (k := 1) (by decide) hl dL_law_947 dL_law_948 dL_law_950 dL_law_951 dL_law_952 ?_
  refine l_ld hx hb hX hbl hw.2.2.2 hL ht (k := 2) (by decide) hl dL_law_953 dL_law_954 dL_law_956 dL_law_957 dL_law_958 ?_
  refine q_C (rest := []) (rm := rmX10_log) (As := [.int (iz (xs (6 * t + 1)).toInt), .int (iz (xs (6 * t + 2)).toInt)]) (o := (r, Sc1)) CC D hw tw4_137 tw4_138 tw4_139 tw1_1 tw4_140 hd_X10_log rfl ⟨⟨rfl, rfl⟩, (Nat.le_of_ble_eq_true rfl), (Nat.le_of_ble_eq_true rfl)⟩ hl.1 rfl (Nat.le_of_ble_eq_true rfl) dL_law_959 (by show cells ≤ 601024; omega) (by show slots ≤ 7293034; omega) (c_X10_log l X CC.2.2.2.1 (zc_ok X) N Sc ((xs (6 * t + 1)).toInt) ((xs (6 * t + 2)).toInt) (r, Sc1) f1) (fun H locs hw => ?_)
  refine lv_aload_n hx hb dL_law_962 rfl (lv_at hl 3 rfl) ?_
  refine l_ld hx hb hX hbl hw.2.2.2 hL ht (k := 1) (by decide) hl dL_law_963 dL_law_964 dL_law_966 dL_law_967 dL_law_968 ?_
  refine l_ld hx hb hX hbl hw.2.2.2 hL ht (k := 2) (by decide) hl dL_law_969 dL_law_970 dL_law_972 dL_law_973 dL_law_974 ?_
  refine q_M (rest := [.int (iz r)]) (rm := rmX11_log) (As := [.int (iz (xs (6 * t + 1)).toInt), .int (iz (xs (6 * t + 2)).toInt)]) (o := (r, Sm1)) CM D hw tw7_146 tw7_147 tw7_148 tw1_12 tw7_149 hd_X11_log rfl ⟨⟨rfl, rfl⟩, (Nat.le_of_ble_eq_true rfl), (Nat.le_of_ble_eq_true rfl)⟩ hl.1 rfl (Nat.le_of_ble_eq_true rfl) dL_law_975 (by show cells ≤ 601024; omega) (by show slots ≤ 7293034; omega) (c_X11_log l XM CM.2.2.2.1 (zm_ok XM) M Sm ((xs (6 * t + 1)).toInt) ((xs (6 * t + 2)).toInt) (r, Sm1) f2) (fun H locs hw => ?_)
  refine lv_icmp_eq (tgt := 1445) hx hb dL_law_978 (by decide) (fun _ => ?_) (fun h => absurd rfl h)
  refine W.widen (k := cells + 1) (n := slots + 6) (by omega) (by omega) ?_
  exact tail Sc1 Sm1 fo H locs ls hr1 hw hl
def Op_noiseFor (Rel Rel' : S2 → S2 → Prop) : Prop := ∀ Sc Sm : S2, Rel Sc Sm → ∀ (a1 : Int), inR a1 → ∃ (N M : Nat) (r : Int) (Sc1 Sm1 : S2), f_X10_noiseFor N Sc a1 = some (r, Sc1) ∧ f_X11_noiseFor M Sm a1 = some (r, Sm1) ∧ Rel' Sc1 Sm1
set_option maxRecDepth 100000 in
set_option maxHeartbeats 4000000 in
theorem lawc_24 {p : Program} {l : Launch} {e : Env} {s : State} {m : MethodId} {below : List Frame} {meth : Method} {c : Code} {b L : Nat} {xs : Nat → Int32} {X XM : XT} {ao : Nat} (G : LawC p l s m meth c b L xs X XM ao) {Rel Rel' : S2 → S2 → Prop} (op : Op_noiseFor Rel Rel') {t cells slots : Nat} (ht : 6 * t + 6 ≤ L) (hc : cells + 1 ≤ 601024) (hs : slots + 6 ≤ 7293034) {Sc Sm : S2} {fo : Nat → Int64} {H : Heap} {locs : List Loc} {ls : Array Slot} (hr : Rel Sc Sm) (hw : LH X XM ao s.heap.size s.heap Sc Sm fo H locs) (hl : lv_has ls 7 (lvL t b (X.2.2 0) (XM.2.2 0) ao)) (tail : LTail p l e s m below meth c b X XM ao Rel' t (cells + 1) (slots + 6)) : W p l e room_1 s m #[Value.ref b] below meth c H locs cells slots (lw_Z below #[Value.ref b] s) (F0 m 983 ls []) := by
  obtain ⟨hx, hb, hret, hml, hown, htbl, hX, hbl, hlocks, hgv⟩ := id G.1
  obtain ⟨-, CC, CM, hzx, D, hlt, hL⟩ := G
  obtain ⟨N, M, r, Sc1, Sm1, f1, f2, hr1⟩ := op Sc Sm hr ((xs (6 * t + 1)).toInt) (inR_toInt _)
  refine lv_aload_n hx hb dL_law_983 rfl (lv_at hl 2 rfl) ?_
  refine l_ld hx hb hX hbl hw.2.2.2 hL ht (k := 1) (by decide) hl dL_law_984 dL_law_985 dL_law_987 dL_law_988 dL_law_989 ?_
  refine q_C (rest := []) (rm := rmX10_noiseFor) (As := [.int (iz (xs (6 * t + 1)).toInt)]) (o := (r, Sc1)) CC D hw tw4_150 tw4_151 tw4_152 tw1_1 tw4_153 hd_X10_noiseFor rfl ⟨⟨rfl, rfl⟩, (Nat.le_of_ble_eq_true rfl), (Nat.le_of_ble_eq_true rfl)⟩ hl.1 rfl (Nat.le_of_ble_eq_true rfl) dL_law_990 (by show cells ≤ 601024; omega) (by show slots ≤ 7293034; omega) (c_X10_noiseFor l X CC.2.2.2.1 (zc_ok X) N Sc ((xs (6 * t + 1)).toInt) (r, Sc1) f1) (fun H locs hw => ?_)
  refine lv_aload_n hx hb dL_law_993 rfl (lv_at hl 3 rfl) ?_
  refine l_ld hx hb hX hbl hw.2.2.2 hL ht (k := 1) (by decide) hl dL_law_994 dL_law_995 dL_law_997 dL_law_998 dL_law_999 ?_
  refine q_M (rest := [.int (iz r)]) (rm := rmX11_noiseFor) (As := [.int (iz (xs (6 * t + 1)).toInt)]) (o := (r, Sm1)) CM D hw tw7_226 tw7_227 tw7_228 tw1_12 tw7_229 hd_X11_noiseFor rfl ⟨⟨rfl, rfl⟩, (Nat.le_of_ble_eq_true rfl), (Nat.le_of_ble_eq_true rfl)⟩ hl.1 rfl (Nat.le_of_ble_eq_true rfl) dL_law_1000 (by show cells ≤ 601024; omega) (by show slots ≤ 7293034; omega) (c_X11_noiseFor l XM CM.2.2.2.1 (zm_ok XM) M Sm ((xs (6 * t + 1)).toInt) (r, Sm1) f2) (fun H locs hw => ?_)
  refine lv_icmp_eq (tgt := 1445) hx hb dL_law_1003 (by decide) (fun _ => ?_) (fun h => absurd rfl h)
  refine W.widen (k := cells + 1) (n := slots + 6) (by omega) (by omega) ?_
  exact tail Sc1 Sm1 fo H locs ls hr1 hw hl
def Op_pieces (Rel Rel' : S2 → S2 → Prop) : Prop := ∀ Sc Sm : S2, Rel Sc Sm → ∀ (a1 : Int), inR a1 → ∃ (N M : Nat) (r : Int) (Sc1 Sm1 : S2), f_X10_pieces N Sc a1 = some (r, Sc1) ∧ f_X11_pieces M Sm a1 = some (r, Sm1) ∧ Rel' Sc1 Sm1
set_option maxRecDepth 100000 in
set_option maxHeartbeats 4000000 in
theorem lawc_25 {p : Program} {l : Launch} {e : Env} {s : State} {m : MethodId} {below : List Frame} {meth : Method} {c : Code} {b L : Nat} {xs : Nat → Int32} {X XM : XT} {ao : Nat} (G : LawC p l s m meth c b L xs X XM ao) {Rel Rel' : S2 → S2 → Prop} (op : Op_pieces Rel Rel') {t cells slots : Nat} (ht : 6 * t + 6 ≤ L) (hc : cells + 1 ≤ 601024) (hs : slots + 6 ≤ 7293034) {Sc Sm : S2} {fo : Nat → Int64} {H : Heap} {locs : List Loc} {ls : Array Slot} (hr : Rel Sc Sm) (hw : LH X XM ao s.heap.size s.heap Sc Sm fo H locs) (hl : lv_has ls 7 (lvL t b (X.2.2 0) (XM.2.2 0) ao)) (tail : LTail p l e s m below meth c b X XM ao Rel' t (cells + 1) (slots + 6)) : W p l e room_1 s m #[Value.ref b] below meth c H locs cells slots (lw_Z below #[Value.ref b] s) (F0 m 1008 ls []) := by
  obtain ⟨hx, hb, hret, hml, hown, htbl, hX, hbl, hlocks, hgv⟩ := id G.1
  obtain ⟨-, CC, CM, hzx, D, hlt, hL⟩ := G
  obtain ⟨N, M, r, Sc1, Sm1, f1, f2, hr1⟩ := op Sc Sm hr ((xs (6 * t + 1)).toInt) (inR_toInt _)
  refine lv_aload_n hx hb dL_law_1008 rfl (lv_at hl 2 rfl) ?_
  refine l_ld hx hb hX hbl hw.2.2.2 hL ht (k := 1) (by decide) hl dL_law_1009 dL_law_1010 dL_law_1012 dL_law_1013 dL_law_1014 ?_
  refine q_C (rest := []) (rm := rmX10_pieces) (As := [.int (iz (xs (6 * t + 1)).toInt)]) (o := (r, Sc1)) CC D hw tw4_155 tw4_156 tw4_157 tw1_1 tw4_158 hd_X10_pieces rfl ⟨⟨rfl, rfl⟩, (Nat.le_of_ble_eq_true rfl), (Nat.le_of_ble_eq_true rfl)⟩ hl.1 rfl (Nat.le_of_ble_eq_true rfl) dL_law_1015 (by show cells ≤ 601024; omega) (by show slots ≤ 7293034; omega) (c_X10_pieces l X CC.2.2.2.1 (zc_ok X) N Sc ((xs (6 * t + 1)).toInt) (r, Sc1) f1) (fun H locs hw => ?_)
  refine lv_aload_n hx hb dL_law_1018 rfl (lv_at hl 3 rfl) ?_
  refine l_ld hx hb hX hbl hw.2.2.2 hL ht (k := 1) (by decide) hl dL_law_1019 dL_law_1020 dL_law_1022 dL_law_1023 dL_law_1024 ?_
  refine q_M (rest := [.int (iz r)]) (rm := rmX11_pieces) (As := [.int (iz (xs (6 * t + 1)).toInt)]) (o := (r, Sm1)) CM D hw tw7_230 tw7_231 tw7_232 tw1_12 tw7_233 hd_X11_pieces rfl ⟨⟨rfl, rfl⟩, (Nat.le_of_ble_eq_true rfl), (Nat.le_of_ble_eq_true rfl)⟩ hl.1 rfl (Nat.le_of_ble_eq_true rfl) dL_law_1025 (by show cells ≤ 601024; omega) (by show slots ≤ 7293034; omega) (c_X11_pieces l XM CM.2.2.2.1 (zm_ok XM) M Sm ((xs (6 * t + 1)).toInt) (r, Sm1) f2) (fun H locs hw => ?_)
  refine lv_icmp_eq (tgt := 1445) hx hb dL_law_1028 (by decide) (fun _ => ?_) (fun h => absurd rfl h)
  refine W.widen (k := cells + 1) (n := slots + 6) (by omega) (by omega) ?_
  exact tail Sc1 Sm1 fo H locs ls hr1 hw hl
def Op_room (Rel Rel' : S2 → S2 → Prop) : Prop := ∀ Sc Sm : S2, Rel Sc Sm → ∀ (a1 : Int), inR a1 → ∃ (N M : Nat) (r : Int) (Sc1 Sm1 : S2), f_X10_room N Sc a1 = some (r, Sc1) ∧ f_X11_room M Sm a1 = some (r, Sm1) ∧ Rel' Sc1 Sm1
set_option maxRecDepth 100000 in
set_option maxHeartbeats 4000000 in
theorem lawc_26 {p : Program} {l : Launch} {e : Env} {s : State} {m : MethodId} {below : List Frame} {meth : Method} {c : Code} {b L : Nat} {xs : Nat → Int32} {X XM : XT} {ao : Nat} (G : LawC p l s m meth c b L xs X XM ao) {Rel Rel' : S2 → S2 → Prop} (op : Op_room Rel Rel') {t cells slots : Nat} (ht : 6 * t + 6 ≤ L) (hc : cells + 1 ≤ 601024) (hs : slots + 6 ≤ 7293034) {Sc Sm : S2} {fo : Nat → Int64} {H : Heap} {locs : List Loc} {ls : Array Slot} (hr : Rel Sc Sm) (hw : LH X XM ao s.heap.size s.heap Sc Sm fo H locs) (hl : lv_has ls 7 (lvL t b (X.2.2 0) (XM.2.2 0) ao)) (tail : LTail p l e s m below meth c b X XM ao Rel' t (cells + 1) (slots + 6)) : W p l e room_1 s m #[Value.ref b] below meth c H locs cells slots (lw_Z below #[Value.ref b] s) (F0 m 1033 ls []) := by
  obtain ⟨hx, hb, hret, hml, hown, htbl, hX, hbl, hlocks, hgv⟩ := id G.1
  obtain ⟨-, CC, CM, hzx, D, hlt, hL⟩ := G
  obtain ⟨N, M, r, Sc1, Sm1, f1, f2, hr1⟩ := op Sc Sm hr ((xs (6 * t + 1)).toInt) (inR_toInt _)
  refine lv_aload_n hx hb dL_law_1033 rfl (lv_at hl 2 rfl) ?_
  refine l_ld hx hb hX hbl hw.2.2.2 hL ht (k := 1) (by decide) hl dL_law_1034 dL_law_1035 dL_law_1037 dL_law_1038 dL_law_1039 ?_
  refine q_C (rest := []) (rm := rmX10_room) (As := [.int (iz (xs (6 * t + 1)).toInt)]) (o := (r, Sc1)) CC D hw tw4_159 tw4_160 tw4_161 tw1_1 tw4_162 hd_X10_room rfl ⟨⟨rfl, rfl⟩, (Nat.le_of_ble_eq_true rfl), (Nat.le_of_ble_eq_true rfl)⟩ hl.1 rfl (Nat.le_of_ble_eq_true rfl) dL_law_1040 (by show cells ≤ 601024; omega) (by show slots ≤ 7293034; omega) (c_X10_room l X CC.2.2.2.1 (zc_ok X) N Sc ((xs (6 * t + 1)).toInt) (r, Sc1) f1) (fun H locs hw => ?_)
  refine lv_aload_n hx hb dL_law_1043 rfl (lv_at hl 3 rfl) ?_
  refine l_ld hx hb hX hbl hw.2.2.2 hL ht (k := 1) (by decide) hl dL_law_1044 dL_law_1045 dL_law_1047 dL_law_1048 dL_law_1049 ?_
  refine q_M (rest := [.int (iz r)]) (rm := rmX11_room) (As := [.int (iz (xs (6 * t + 1)).toInt)]) (o := (r, Sm1)) CM D hw tw7_234 tw7_235 tw7_236 tw1_12 tw7_237 hd_X11_room rfl ⟨⟨rfl, rfl⟩, (Nat.le_of_ble_eq_true rfl), (Nat.le_of_ble_eq_true rfl)⟩ hl.1 rfl (Nat.le_of_ble_eq_true rfl) dL_law_1050 (by show cells ≤ 601024; omega) (by show slots ≤ 7293034; omega) (c_X11_room l XM CM.2.2.2.1 (zm_ok XM) M Sm ((xs (6 * t + 1)).toInt) (r, Sm1) f2) (fun H locs hw => ?_)
  refine lv_icmp_eq (tgt := 1445) hx hb dL_law_1053 (by decide) (fun _ => ?_) (fun h => absurd rfl h)
  refine W.widen (k := cells + 1) (n := slots + 6) (by omega) (by omega) ?_
  exact tail Sc1 Sm1 fo H locs ls hr1 hw hl
def Op_unlike (Rel Rel' : S2 → S2 → Prop) : Prop := ∀ Sc Sm : S2, Rel Sc Sm → ∃ (N M : Nat) (r : Int) (Sc1 Sm1 : S2), f_X10_unlike N Sc = some (r, Sc1) ∧ f_X11_unlike M Sm = some (r, Sm1) ∧ Rel' Sc1 Sm1
set_option maxRecDepth 100000 in
set_option maxHeartbeats 4000000 in
theorem lawc_27 {p : Program} {l : Launch} {e : Env} {s : State} {m : MethodId} {below : List Frame} {meth : Method} {c : Code} {b L : Nat} {xs : Nat → Int32} {X XM : XT} {ao : Nat} (G : LawC p l s m meth c b L xs X XM ao) {Rel Rel' : S2 → S2 → Prop} (op : Op_unlike Rel Rel') {t cells slots : Nat} (ht : 6 * t + 6 ≤ L) (hc : cells + 1 ≤ 601024) (hs : slots + 6 ≤ 7293034) {Sc Sm : S2} {fo : Nat → Int64} {H : Heap} {locs : List Loc} {ls : Array Slot} (hr : Rel Sc Sm) (hw : LH X XM ao s.heap.size s.heap Sc Sm fo H locs) (hl : lv_has ls 7 (lvL t b (X.2.2 0) (XM.2.2 0) ao)) (tail : LTail p l e s m below meth c b X XM ao Rel' t (cells + 1) (slots + 6)) : W p l e room_1 s m #[Value.ref b] below meth c H locs cells slots (lw_Z below #[Value.ref b] s) (F0 m 1058 ls []) := by
  obtain ⟨hx, hb, hret, hml, hown, htbl, hX, hbl, hlocks, hgv⟩ := id G.1
  obtain ⟨-, CC, CM, hzx, D, hlt, hL⟩ := G
  obtain ⟨N, M, r, Sc1, Sm1, f1, f2, hr1⟩ := op Sc Sm hr  
  refine lv_aload_n hx hb dL_law_1058 rfl (lv_at hl 2 rfl) ?_
  refine q_C (rest := []) (rm := rmX10_unlike) (As := []) (o := (r, Sc1)) CC D hw tw4_163 tw4_164 tw4_165 tw1_1 tw4_166 hd_X10_unlike rfl ⟨⟨rfl, rfl⟩, (Nat.le_of_ble_eq_true rfl), (Nat.le_of_ble_eq_true rfl)⟩ hl.1 rfl (Nat.le_of_ble_eq_true rfl) dL_law_1059 (by show cells ≤ 601024; omega) (by show slots ≤ 7293034; omega) (c_X10_unlike l X CC.2.2.2.1 (zc_ok X) N Sc  (r, Sc1) f1) (fun H locs hw => ?_)
  refine lv_aload_n hx hb dL_law_1062 rfl (lv_at hl 3 rfl) ?_
  refine q_M (rest := [.int (iz r)]) (rm := rmX11_unlike) (As := []) (o := (r, Sm1)) CM D hw tw8_10 tw8_11 tw8_12 tw1_12 tw8_13 hd_X11_unlike rfl ⟨⟨rfl, rfl⟩, (Nat.le_of_ble_eq_true rfl), (Nat.le_of_ble_eq_true rfl)⟩ hl.1 rfl (Nat.le_of_ble_eq_true rfl) dL_law_1063 (by show cells ≤ 601024; omega) (by show slots ≤ 7293034; omega) (c_X11_unlike l XM CM.2.2.2.1 (zm_ok XM) M Sm  (r, Sm1) f2) (fun H locs hw => ?_)
  refine lv_icmp_eq (tgt := 1445) hx hb dL_law_1066 (by decide) (fun _ => ?_) (fun h => absurd rfl h)
  refine W.widen (k := cells + 1) (n := slots + 6) (by omega) (by omega) ?_
  exact tail Sc1 Sm1 fo H locs ls hr1 hw hl
def Op_shift (Rel Rel' : S2 → S2 → Prop) : Prop := ∀ Sc Sm : S2, Rel Sc Sm → ∀ (a1 : Int), inR a1 → ∃ (N M : Nat) (r : Int) (Sc1 Sm1 : S2), f_X10_shift N Sc a1 = some (r, Sc1) ∧ f_X11_shift M Sm a1 = some (r, Sm1) ∧ Rel' Sc1 Sm1
set_option maxRecDepth 100000 in
set_option maxHeartbeats 4000000 in
theorem lawc_28 {p : Program} {l : Launch} {e : Env} {s : State} {m : MethodId} {below : List Frame} {meth : Method} {c : Code} {b L : Nat} {xs : Nat → Int32} {X XM : XT} {ao : Nat} (G : LawC p l s m meth c b L xs X XM ao) {Rel Rel' : S2 → S2 → Prop} (op : Op_shift Rel Rel') {t cells slots : Nat} (ht : 6 * t + 6 ≤ L) (hc : cells + 1 ≤ 601024) (hs : slots + 6 ≤ 7293034) {Sc Sm : S2} {fo : Nat → Int64} {H : Heap} {locs : List Loc} {ls : Array Slot} (hr : Rel Sc Sm) (hw : LH X XM ao s.heap.size s.heap Sc Sm fo H locs) (hl : lv_has ls 7 (lvL t b (X.2.2 0) (XM.2.2 0) ao)) (tail : LTail p l e s m below meth c b X XM ao Rel' t (cells + 1) (slots + 6)) : W p l e room_1 s m #[Value.ref b] below meth c H locs cells slots (lw_Z below #[Value.ref b] s) (F0 m 1071 ls []) := by
  obtain ⟨hx, hb, hret, hml, hown, htbl, hX, hbl, hlocks, hgv⟩ := id G.1
  obtain ⟨-, CC, CM, hzx, D, hlt, hL⟩ := G
  obtain ⟨N, M, r, Sc1, Sm1, f1, f2, hr1⟩ := op Sc Sm hr ((xs (6 * t + 1)).toInt) (inR_toInt _)
  refine lv_aload_n hx hb dL_law_1071 rfl (lv_at hl 2 rfl) ?_
  refine l_ld hx hb hX hbl hw.2.2.2 hL ht (k := 1) (by decide) hl dL_law_1072 dL_law_1073 dL_law_1075 dL_law_1076 dL_law_1077 ?_
  refine q_C (rest := []) (rm := rmX10_shift) (As := [.int (iz (xs (6 * t + 1)).toInt)]) (o := (r, Sc1)) CC D hw tw4_169 tw4_170 tw4_171 tw1_1 tw4_172 hd_X10_shift rfl ⟨⟨rfl, rfl⟩, (Nat.le_of_ble_eq_true rfl), (Nat.le_of_ble_eq_true rfl)⟩ hl.1 rfl (Nat.le_of_ble_eq_true rfl) dL_law_1078 (by show cells ≤ 601024; omega) (by show slots ≤ 7293034; omega) (c_X10_shift l X CC.2.2.2.1 (zc_ok X) N Sc ((xs (6 * t + 1)).toInt) (r, Sc1) f1) (fun H locs hw => ?_)
  refine lv_aload_n hx hb dL_law_1081 rfl (lv_at hl 3 rfl) ?_
  refine l_ld hx hb hX hbl hw.2.2.2 hL ht (k := 1) (by decide) hl dL_law_1082 dL_law_1083 dL_law_1085 dL_law_1086 dL_law_1087 ?_
  refine q_M (rest := [.int (iz r)]) (rm := rmX11_shift) (As := [.int (iz (xs (6 * t + 1)).toInt)]) (o := (r, Sm1)) CM D hw tw8_22 tw8_23 tw8_24 tw1_12 tw8_25 hd_X11_shift rfl ⟨⟨rfl, rfl⟩, (Nat.le_of_ble_eq_true rfl), (Nat.le_of_ble_eq_true rfl)⟩ hl.1 rfl (Nat.le_of_ble_eq_true rfl) dL_law_1088 (by show cells ≤ 601024; omega) (by show slots ≤ 7293034; omega) (c_X11_shift l XM CM.2.2.2.1 (zm_ok XM) M Sm ((xs (6 * t + 1)).toInt) (r, Sm1) f2) (fun H locs hw => ?_)
  refine lv_icmp_eq (tgt := 1445) hx hb dL_law_1091 (by decide) (fun _ => ?_) (fun h => absurd rfl h)
  refine W.widen (k := cells + 1) (n := slots + 6) (by omega) (by omega) ?_
  exact tail Sc1 Sm1 fo H locs ls hr1 hw hl
def Op_missed (Rel Rel' : S2 → S2 → Prop) : Prop := ∀ Sc Sm : S2, Rel Sc Sm → ∃ (N M : Nat) (r : Int) (Sc1 Sm1 : S2), f_X10_missed N Sc = some (r, Sc1) ∧ f_X11_missed M Sm = some (r, Sm1) ∧ Rel' Sc1 Sm1
set_option maxRecDepth 100000 in
set_option maxHeartbeats 4000000 in
theorem lawc_29 {p : Program} {l : Launch} {e : Env} {s : State} {m : MethodId} {below : List Frame} {meth : Method} {c : Code} {b L : Nat} {xs : Nat → Int32} {X XM : XT} {ao : Nat} (G : LawC p l s m meth c b L xs X XM ao) {Rel Rel' : S2 → S2 → Prop} (op : Op_missed Rel Rel') {t cells slots : Nat} (ht : 6 * t + 6 ≤ L) (hc : cells + 1 ≤ 601024) (hs : slots + 6 ≤ 7293034) {Sc Sm : S2} {fo : Nat → Int64} {H : Heap} {locs : List Loc} {ls : Array Slot} (hr : Rel Sc Sm) (hw : LH X XM ao s.heap.size s.heap Sc Sm fo H locs) (hl : lv_has ls 7 (lvL t b (X.2.2 0) (XM.2.2 0) ao)) (tail : LTail p l e s m below meth c b X XM ao Rel' t (cells + 1) (slots + 6)) : W p l e room_1 s m #[Value.ref b] below meth c H locs cells slots (lw_Z below #[Value.ref b] s) (F0 m 1096 ls []) := by
  obtain ⟨hx, hb, hret, hml, hown, htbl, hX, hbl, hlocks, hgv⟩ := id G.1
  obtain ⟨-, CC, CM, hzx, D, hlt, hL⟩ := G
  obtain ⟨N, M, r, Sc1, Sm1, f1, f2, hr1⟩ := op Sc Sm hr  
  refine lv_aload_n hx hb dL_law_1096 rfl (lv_at hl 2 rfl) ?_
  refine q_C (rest := []) (rm := rmX10_missed) (As := []) (o := (r, Sc1)) CC D hw tw4_174 tw4_175 tw4_176 tw1_1 tw4_177 hd_X10_missed rfl ⟨⟨rfl, rfl⟩, (Nat.le_of_ble_eq_true rfl), (Nat.le_of_ble_eq_true rfl)⟩ hl.1 rfl (Nat.le_of_ble_eq_true rfl) dL_law_1097 (by show cells ≤ 601024; omega) (by show slots ≤ 7293034; omega) (c_X10_missed l X CC.2.2.2.1 (zc_ok X) N Sc  (r, Sc1) f1) (fun H locs hw => ?_)
  refine lv_aload_n hx hb dL_law_1100 rfl (lv_at hl 3 rfl) ?_
  refine q_M (rest := [.int (iz r)]) (rm := rmX11_missed) (As := []) (o := (r, Sm1)) CM D hw tw8_26 tw8_27 tw8_28 tw1_12 tw8_29 hd_X11_missed rfl ⟨⟨rfl, rfl⟩, (Nat.le_of_ble_eq_true rfl), (Nat.le_of_ble_eq_true rfl)⟩ hl.1 rfl (Nat.le_of_ble_eq_true rfl) dL_law_1101 (by show cells ≤ 601024; omega) (by show slots ≤ 7293034; omega) (c_X11_missed l XM CM.2.2.2.1 (zm_ok XM) M Sm  (r, Sm1) f2) (fun H locs hw => ?_)
  refine lv_icmp_eq (tgt := 1445) hx hb dL_law_1104 (by decide) (fun _ => ?_) (fun h => absurd rfl h)
  refine W.widen (k := cells + 1) (n := slots + 6) (by omega) (by omega) ?_
  exact tail Sc1 Sm1 fo H locs ls hr1 hw hl
def Op_would (Rel Rel' : S2 → S2 → Prop) : Prop := ∀ Sc Sm : S2, Rel Sc Sm → ∀ (a1 : Int) (a2 : Int) (a3 : Int), inR a1 → inR a2 → inR a3 → ∃ (N M : Nat) (r : Int) (Sc1 Sm1 : S2), f_X10_would N Sc a1 a2 a3 = some (r, Sc1) ∧ f_X11_would M Sm a1 a2 a3 = some (r, Sm1) ∧ Rel' Sc1 Sm1
set_option maxRecDepth 100000 in
set_option maxHeartbeats 4000000 in
theorem lawc_30 {p : Program} {l : Launch} {e : Env} {s : State} {m : MethodId} {below : List Frame} {meth : Method} {c : Code} {b L : Nat} {xs : Nat → Int32} {X XM : XT} {ao : Nat} (G : LawC p l s m meth c b L xs X XM ao) {Rel Rel' : S2 → S2 → Prop} (op : Op_would Rel Rel') {t cells slots : Nat} (ht : 6 * t + 6 ≤ L) (hc : cells + 1 ≤ 601024) (hs : slots + 6 ≤ 7293034) {Sc Sm : S2} {fo : Nat → Int64} {H : Heap} {locs : List Loc} {ls : Array Slot} (hr : Rel Sc Sm) (hw : LH X XM ao s.heap.size s.heap Sc Sm fo H locs) (hl : lv_has ls 7 (lvL t b (X.2.2 0) (XM.2.2 0) ao)) (tail : LTail p l e s m below meth c b X XM ao Rel' t (cells + 1) (slots + 6)) : W p l e room_1 s m #[Value.ref b] below meth c H locs cells slots (lw_Z below #[Value.ref b] s) (F0 m 1109 ls []) := by
  obtain ⟨hx, hb, hret, hml, hown, htbl, hX, hbl, hlocks, hgv⟩ := id G.1
  obtain ⟨-, CC, CM, hzx, D, hlt, hL⟩ := G
  obtain ⟨N, M, r, Sc1, Sm1, f1, f2, hr1⟩ := op Sc Sm hr ((xs (6 * t + 1)).toInt) ((xs (6 * t + 2)).toInt) ((xs (6 * t + 3)).toInt) (inR_toInt _) (inR_toInt _) (inR_toInt _)
  refine lv_aload_n hx hb dL_law_1109 rfl (lv_at hl 2 rfl) ?_
  refine l_ld hx hb hX hbl hw.2.2.2 hL ht (k := 1) (by decide) hl dL_law_1110 dL_law_1111 dL_law_1113 dL_law_1114 dL_law_1115 ?_
  refine l_ld hx hb hX hbl hw.2.2.2 hL ht (k := 2) (by decide) hl dL_law_1116 dL_law_1117 dL_law_1119 dL_law_1120 dL_law_1121 ?_
  refine l_ld hx hb hX hbl hw.2.2.2 hL ht (k := 3) (by decide) hl dL_law_1122 dL_law_1123 dL_law_1125 dL_law_1126 dL_law_1127 ?_
  refine q_C (rest := []) (rm := rmX10_would) (As := [.int (iz (xs (6 * t + 1)).toInt), .int (iz (xs (6 * t + 2)).toInt), .int (iz (xs (6 * t + 3)).toInt)]) (o := (r, Sc1)) CC D hw tw4_182 tw4_183 tw4_184 tw1_1 tw4_185 hd_X10_would rfl ⟨⟨rfl, rfl⟩, (Nat.le_of_ble_eq_true rfl), (Nat.le_of_ble_eq_true rfl)⟩ hl.1 rfl (Nat.le_of_ble_eq_true rfl) dL_law_1128 (by show cells ≤ 601024; omega) (by show slots ≤ 7293034; omega) (c_X10_would l X CC.2.2.2.1 (zc_ok X) N Sc ((xs (6 * t + 1)).toInt) ((xs (6 * t + 2)).toInt) ((xs (6 * t + 3)).toInt) (r, Sc1) f1) (fun H locs hw => ?_)
  refine lv_aload_n hx hb dL_law_1131 rfl (lv_at hl 3 rfl) ?_
  refine l_ld hx hb hX hbl hw.2.2.2 hL ht (k := 1) (by decide) hl dL_law_1132 dL_law_1133 dL_law_1135 dL_law_1136 dL_law_1137 ?_
  refine l_ld hx hb hX hbl hw.2.2.2 hL ht (k := 2) (by decide) hl dL_law_1138 dL_law_1139 dL_law_1141 dL_law_1142 dL_law_1143 ?_
  refine l_ld hx hb hX hbl hw.2.2.2 hL ht (k := 3) (by decide) hl dL_law_1144 dL_law_1145 dL_law_1147 dL_law_1148 dL_law_1149 ?_
  refine q_M (rest := [.int (iz r)]) (rm := rmX11_would) (As := [.int (iz (xs (6 * t + 1)).toInt), .int (iz (xs (6 * t + 2)).toInt), .int (iz (xs (6 * t + 3)).toInt)]) (o := (r, Sm1)) CM D hw tw8_34 tw8_35 tw8_36 tw1_12 tw8_37 hd_X11_would rfl ⟨⟨rfl, rfl⟩, (Nat.le_of_ble_eq_true rfl), (Nat.le_of_ble_eq_true rfl)⟩ hl.1 rfl (Nat.le_of_ble_eq_true rfl) dL_law_1150 (by show cells ≤ 601024; omega) (by show slots ≤ 7293034; omega) (c_X11_would l XM CM.2.2.2.1 (zm_ok XM) M Sm ((xs (6 * t + 1)).toInt) ((xs (6 * t + 2)).toInt) ((xs (6 * t + 3)).toInt) (r, Sm1) f2) (fun H locs hw => ?_)
  refine lv_icmp_eq (tgt := 1445) hx hb dL_law_1153 (by decide) (fun _ => ?_) (fun h => absurd rfl h)
  refine W.widen (k := cells + 1) (n := slots + 6) (by omega) (by omega) ?_
  exact tail Sc1 Sm1 fo H locs ls hr1 hw hl
def Op_solo (Rel Rel' : S2 → S2 → Prop) : Prop := ∀ Sc Sm : S2, Rel Sc Sm → ∃ (N M : Nat) (r : Int) (Sc1 Sm1 : S2), f_X10_solo N Sc = some (r, Sc1) ∧ f_X11_solo M Sm = some (r, Sm1) ∧ Rel' Sc1 Sm1
set_option maxRecDepth 100000 in
set_option maxHeartbeats 4000000 in
theorem lawc_31 {p : Program} {l : Launch} {e : Env} {s : State} {m : MethodId} {below : List Frame} {meth : Method} {c : Code} {b L : Nat} {xs : Nat → Int32} {X XM : XT} {ao : Nat} (G : LawC p l s m meth c b L xs X XM ao) {Rel Rel' : S2 → S2 → Prop} (op : Op_solo Rel Rel') {t cells slots : Nat} (ht : 6 * t + 6 ≤ L) (hc : cells + 1 ≤ 601024) (hs : slots + 6 ≤ 7293034) {Sc Sm : S2} {fo : Nat → Int64} {H : Heap} {locs : List Loc} {ls : Array Slot} (hr : Rel Sc Sm) (hw : LH X XM ao s.heap.size s.heap Sc Sm fo H locs) (hl : lv_has ls 7 (lvL t b (X.2.2 0) (XM.2.2 0) ao)) (tail : LTail p l e s m below meth c b X XM ao Rel' t (cells + 1) (slots + 6)) : W p l e room_1 s m #[Value.ref b] below meth c H locs cells slots (lw_Z below #[Value.ref b] s) (F0 m 1158 ls []) := by
  obtain ⟨hx, hb, hret, hml, hown, htbl, hX, hbl, hlocks, hgv⟩ := id G.1
  obtain ⟨-, CC, CM, hzx, D, hlt, hL⟩ := G
  obtain ⟨N, M, r, Sc1, Sm1, f1, f2, hr1⟩ := op Sc Sm hr  
  refine lv_aload_n hx hb dL_law_1158 rfl (lv_at hl 2 rfl) ?_
  refine q_C (rest := []) (rm := rmX10_solo) (As := []) (o := (r, Sc1)) CC D hw tw4_187 tw4_188 tw4_189 tw1_1 tw4_190 hd_X10_solo rfl ⟨⟨rfl, rfl⟩, (Nat.le_of_ble_eq_true rfl), (Nat.le_of_ble_eq_true rfl)⟩ hl.1 rfl (Nat.le_of_ble_eq_true rfl) dL_law_1159 (by show cells ≤ 601024; omega) (by show slots ≤ 7293034; omega) (c_X10_solo l X CC.2.2.2.1 (zc_ok X) N Sc  (r, Sc1) f1) (fun H locs hw => ?_)
  refine lv_aload_n hx hb dL_law_1162 rfl (lv_at hl 3 rfl) ?_
  refine q_M (rest := [.int (iz r)]) (rm := rmX11_solo) (As := []) (o := (r, Sm1)) CM D hw tw8_38 tw8_39 tw8_40 tw1_12 tw8_41 hd_X11_solo rfl ⟨⟨rfl, rfl⟩, (Nat.le_of_ble_eq_true rfl), (Nat.le_of_ble_eq_true rfl)⟩ hl.1 rfl (Nat.le_of_ble_eq_true rfl) dL_law_1163 (by show cells ≤ 601024; omega) (by show slots ≤ 7293034; omega) (c_X11_solo l XM CM.2.2.2.1 (zm_ok XM) M Sm  (r, Sm1) f2) (fun H locs hw => ?_)
  refine lv_icmp_eq (tgt := 1445) hx hb dL_law_1166 (by decide) (fun _ => ?_) (fun h => absurd rfl h)
  refine W.widen (k := cells + 1) (n := slots + 6) (by omega) (by omega) ?_
  exact tail Sc1 Sm1 fo H locs ls hr1 hw hl
def Op_tallest (Rel Rel' : S2 → S2 → Prop) : Prop := ∀ Sc Sm : S2, Rel Sc Sm → ∀ (a1 : Int), inR a1 → ∃ (N M : Nat) (r : Int) (Sc1 Sm1 : S2), f_X10_tallest N Sc a1 = some (r, Sc1) ∧ f_X11_tallest M Sm a1 = some (r, Sm1) ∧ Rel' Sc1 Sm1
set_option maxRecDepth 100000 in
set_option maxHeartbeats 4000000 in
theorem lawc_32 {p : Program} {l : Launch} {e : Env} {s : State} {m : MethodId} {below : List Frame} {meth : Method} {c : Code} {b L : Nat} {xs : Nat → Int32} {X XM : XT} {ao : Nat} (G : LawC p l s m meth c b L xs X XM ao) {Rel Rel' : S2 → S2 → Prop} (op : Op_tallest Rel Rel') {t cells slots : Nat} (ht : 6 * t + 6 ≤ L) (hc : cells + 1 ≤ 601024) (hs : slots + 6 ≤ 7293034) {Sc Sm : S2} {fo : Nat → Int64} {H : Heap} {locs : List Loc} {ls : Array Slot} (hr : Rel Sc Sm) (hw : LH X XM ao s.heap.size s.heap Sc Sm fo H locs) (hl : lv_has ls 7 (lvL t b (X.2.2 0) (XM.2.2 0) ao)) (tail : LTail p l e s m below meth c b X XM ao Rel' t (cells + 1) (slots + 6)) : W p l e room_1 s m #[Value.ref b] below meth c H locs cells slots (lw_Z below #[Value.ref b] s) (F0 m 1171 ls []) := by
  obtain ⟨hx, hb, hret, hml, hown, htbl, hX, hbl, hlocks, hgv⟩ := id G.1
  obtain ⟨-, CC, CM, hzx, D, hlt, hL⟩ := G
  obtain ⟨N, M, r, Sc1, Sm1, f1, f2, hr1⟩ := op Sc Sm hr ((xs (6 * t + 1)).toInt) (inR_toInt _)
  refine lv_aload_n hx hb dL_law_1171 rfl (lv_at hl 2 rfl) ?_
  refine l_ld hx hb hX hbl hw.2.2.2 hL ht (k := 1) (by decide) hl dL_law_1172 dL_law_1173 dL_law_1175 dL_law_1176 dL_law_1177 ?_
  refine q_C (rest := []) (rm := rmX10_tallest) (As := [.int (iz (xs (6 * t + 1)).toInt)]) (o := (r, Sc1)) CC D hw tw4_192 tw4_193 tw4_194 tw1_1 tw4_195 hd_X10_tallest rfl ⟨⟨rfl, rfl⟩, (Nat.le_of_ble_eq_true rfl), (Nat.le_of_ble_eq_true rfl)⟩ hl.1 rfl (Nat.le_of_ble_eq_true rfl) dL_law_1178 (by show cells ≤ 601024; omega) (by show slots ≤ 7293034; omega) (c_X10_tallest l X CC.2.2.2.1 (zc_ok X) N Sc ((xs (6 * t + 1)).toInt) (r, Sc1) f1) (fun H locs hw => ?_)
  refine lv_aload_n hx hb dL_law_1181 rfl (lv_at hl 3 rfl) ?_
  refine l_ld hx hb hX hbl hw.2.2.2 hL ht (k := 1) (by decide) hl dL_law_1182 dL_law_1183 dL_law_1185 dL_law_1186 dL_law_1187 ?_
  refine q_M (rest := [.int (iz r)]) (rm := rmX11_tallest) (As := [.int (iz (xs (6 * t + 1)).toInt)]) (o := (r, Sm1)) CM D hw tw8_46 tw8_47 tw8_48 tw1_12 tw8_49 hd_X11_tallest rfl ⟨⟨rfl, rfl⟩, (Nat.le_of_ble_eq_true rfl), (Nat.le_of_ble_eq_true rfl)⟩ hl.1 rfl (Nat.le_of_ble_eq_true rfl) dL_law_1188 (by show cells ≤ 601024; omega) (by show slots ≤ 7293034; omega) (c_X11_tallest l XM CM.2.2.2.1 (zm_ok XM) M Sm ((xs (6 * t + 1)).toInt) (r, Sm1) f2) (fun H locs hw => ?_)
  refine lv_icmp_eq (tgt := 1445) hx hb dL_law_1191 (by decide) (fun _ => ?_) (fun h => absurd rfl h)
  refine W.widen (k := cells + 1) (n := slots + 6) (by omega) (by omega) ?_
  exact tail Sc1 Sm1 fo H locs ls hr1 hw hl
def Op_change (Rel Rel' : S2 → S2 → Prop) : Prop := ∀ Sc Sm : S2, Rel Sc Sm → ∀ (a1 : Int), inR a1 → ∃ (N M : Nat) (r : Int) (Sc1 Sm1 : S2), f_X10_change N Sc a1 = some (r, Sc1) ∧ f_X11_change M Sm a1 = some (r, Sm1) ∧ Rel' Sc1 Sm1
set_option maxRecDepth 100000 in
set_option maxHeartbeats 4000000 in
theorem lawc_33 {p : Program} {l : Launch} {e : Env} {s : State} {m : MethodId} {below : List Frame} {meth : Method} {c : Code} {b L : Nat} {xs : Nat → Int32} {X XM : XT} {ao : Nat} (G : LawC p l s m meth c b L xs X XM ao) {Rel Rel' : S2 → S2 → Prop} (op : Op_change Rel Rel') {t cells slots : Nat} (ht : 6 * t + 6 ≤ L) (hc : cells + 1 ≤ 601024) (hs : slots + 6 ≤ 7293034) {Sc Sm : S2} {fo : Nat → Int64} {H : Heap} {locs : List Loc} {ls : Array Slot} (hr : Rel Sc Sm) (hw : LH X XM ao s.heap.size s.heap Sc Sm fo H locs) (hl : lv_has ls 7 (lvL t b (X.2.2 0) (XM.2.2 0) ao)) (tail : LTail p l e s m below meth c b X XM ao Rel' t (cells + 1) (slots + 6)) : W p l e room_1 s m #[Value.ref b] below meth c H locs cells slots (lw_Z below #[Value.ref b] s) (F0 m 1196 ls []) := by
  obtain ⟨hx, hb, hret, hml, hown, htbl, hX, hbl, hlocks, hgv⟩ := id G.1
  obtain ⟨-, CC, CM, hzx, D, hlt, hL⟩ := G
  obtain ⟨N, M, r, Sc1, Sm1, f1, f2, hr1⟩ := op Sc Sm hr ((xs (6 * t + 1)).toInt) (inR_toInt _)
  refine lv_aload_n hx hb dL_law_1196 rfl (lv_at hl 2 rfl) ?_
  refine l_ld hx hb hX hbl hw.2.2.2 hL ht (k := 1) (by decide) hl dL_law_1197 dL_law_1198 dL_law_1200 dL_law_1201 dL_law_1202 ?_
  refine q_C (rest := []) (rm := rmX10_change) (As := [.int (iz (xs (6 * t + 1)).toInt)]) (o := (r, Sc1)) CC D hw tw4_200 tw4_201 tw4_202 tw1_1 tw4_203 hd_X10_change rfl ⟨⟨rfl, rfl⟩, (Nat.le_of_ble_eq_true rfl), (Nat.le_of_ble_eq_true rfl)⟩ hl.1 rfl (Nat.le_of_ble_eq_true rfl) dL_law_1203 (by show cells ≤ 601024; omega) (by show slots ≤ 7293034; omega) (c_X10_change l X CC.2.2.2.1 (zc_ok X) N Sc ((xs (6 * t + 1)).toInt) (r, Sc1) f1) (fun H locs hw => ?_)
  refine lv_aload_n hx hb dL_law_1206 rfl (lv_at hl 3 rfl) ?_
  refine l_ld hx hb hX hbl hw.2.2.2 hL ht (k := 1) (by decide) hl dL_law_1207 dL_law_1208 dL_law_1210 dL_law_1211 dL_law_1212 ?_
  refine q_M (rest := [.int (iz r)]) (rm := rmX11_change) (As := [.int (iz (xs (6 * t + 1)).toInt)]) (o := (r, Sm1)) CM D hw tw8_50 tw8_51 tw8_52 tw1_12 tw8_53 hd_X11_change rfl ⟨⟨rfl, rfl⟩, (Nat.le_of_ble_eq_true rfl), (Nat.le_of_ble_eq_true rfl)⟩ hl.1 rfl (Nat.le_of_ble_eq_true rfl) dL_law_1213 (by show cells ≤ 601024; omega) (by show slots ≤ 7293034; omega) (c_X11_change l XM CM.2.2.2.1 (zm_ok XM) M Sm ((xs (6 * t + 1)).toInt) (r, Sm1) f2) (fun H locs hw => ?_)
  refine lv_icmp_eq (tgt := 1445) hx hb dL_law_1216 (by decide) (fun _ => ?_) (fun h => absurd rfl h)
  refine W.widen (k := cells + 1) (n := slots + 6) (by omega) (by omega) ?_
  exact tail Sc1 Sm1 fo H locs ls hr1 hw hl
def Op_spell (Rel Rel' : S2 → S2 → Prop) : Prop := ∀ Sc Sm : S2, Rel Sc Sm → ∀ (a1 : Int) (a2 : Int), inR a1 → inR a2 → ∃ (N M : Nat) (r : Int) (Sc1 Sm1 : S2), f_X10_spell N Sc a1 a2 = some (r, Sc1) ∧ f_X11_spell M Sm a1 a2 = some (r, Sm1) ∧ Rel' Sc1 Sm1
set_option maxRecDepth 100000 in
set_option maxHeartbeats 4000000 in
theorem lawc_34 {p : Program} {l : Launch} {e : Env} {s : State} {m : MethodId} {below : List Frame} {meth : Method} {c : Code} {b L : Nat} {xs : Nat → Int32} {X XM : XT} {ao : Nat} (G : LawC p l s m meth c b L xs X XM ao) {Rel Rel' : S2 → S2 → Prop} (op : Op_spell Rel Rel') {t cells slots : Nat} (ht : 6 * t + 6 ≤ L) (hc : cells + 1 ≤ 601024) (hs : slots + 6 ≤ 7293034) {Sc Sm : S2} {fo : Nat → Int64} {H : Heap} {locs : List Loc} {ls : Array Slot} (hr : Rel Sc Sm) (hw : LH X XM ao s.heap.size s.heap Sc Sm fo H locs) (hl : lv_has ls 7 (lvL t b (X.2.2 0) (XM.2.2 0) ao)) (tail : LTail p l e s m below meth c b X XM ao Rel' t (cells + 1) (slots + 6)) : W p l e room_1 s m #[Value.ref b] below meth c H locs cells slots (lw_Z below #[Value.ref b] s) (F0 m 1221 ls []) := by
  obtain ⟨hx, hb, hret, hml, hown, htbl, hX, hbl, hlocks, hgv⟩ := id G.1
  obtain ⟨-, CC, CM, hzx, D, hlt, hL⟩ := G
  obtain ⟨N, M, r, Sc1, Sm1, f1, f2, hr1⟩ := op Sc Sm hr ((xs (6 * t + 1)).toInt) ((xs (6 * t + 2)).toInt) (inR_toInt _) (inR_toInt _)
  refine lv_aload_n hx hb dL_law_1221 rfl (lv_at hl 2 rfl) ?_
  refine l_ld hx hb hX hbl hw.2.2.2 hL ht (k := 1) (by decide) hl dL_law_1222 dL_law_1223 dL_law_1225 dL_law_1226 dL_law_1227 ?_
  refine l_ld hx hb hX hbl hw.2.2.2 hL ht (k := 2) (by decide) hl dL_law_1228 dL_law_1229 dL_law_1231 dL_law_1232 dL_law_1233 ?_
  refine q_C (rest := []) (rm := rmX10_spell) (As := [.int (iz (xs (6 * t + 1)).toInt), .int (iz (xs (6 * t + 2)).toInt)]) (o := (r, Sc1)) CC D hw tw4_204 tw4_205 tw4_206 tw1_1 tw4_207 hd_X10_spell rfl ⟨⟨rfl, rfl⟩, (Nat.le_of_ble_eq_true rfl), (Nat.le_of_ble_eq_true rfl)⟩ hl.1 rfl (Nat.le_of_ble_eq_true rfl) dL_law_1234 (by show cells ≤ 601024; omega) (by show slots ≤ 7293034; omega) (c_X10_spell l X CC.2.2.2.1 (zc_ok X) N Sc ((xs (6 * t + 1)).toInt) ((xs (6 * t + 2)).toInt) (r, Sc1) f1) (fun H locs hw => ?_)
  refine lv_aload_n hx hb dL_law_1237 rfl (lv_at hl 3 rfl) ?_
  refine l_ld hx hb hX hbl hw.2.2.2 hL ht (k := 1) (by decide) hl dL_law_1238 dL_law_1239 dL_law_1241 dL_law_1242 dL_law_1243 ?_
  refine l_ld hx hb hX hbl hw.2.2.2 hL ht (k := 2) (by decide) hl dL_law_1244 dL_law_1245 dL_law_1247 dL_law_1248 dL_law_1249 ?_
  refine q_M (rest := [.int (iz r)]) (rm := rmX11_spell) (As := [.int (iz (xs (6 * t + 1)).toInt), .int (iz (xs (6 * t + 2)).toInt)]) (o := (r, Sm1)) CM D hw tw8_55 tw8_56 tw8_57 tw1_12 tw8_58 hd_X11_spell rfl ⟨⟨rfl, rfl⟩, (Nat.le_of_ble_eq_true rfl), (Nat.le_of_ble_eq_true rfl)⟩ hl.1 rfl (Nat.le_of_ble_eq_true rfl) dL_law_1250 (by show cells ≤ 601024; omega) (by show slots ≤ 7293034; omega) (c_X11_spell l XM CM.2.2.2.1 (zm_ok XM) M Sm ((xs (6 * t + 1)).toInt) ((xs (6 * t + 2)).toInt) (r, Sm1) f2) (fun H locs hw => ?_)
  refine lv_icmp_eq (tgt := 1445) hx hb dL_law_1253 (by decide) (fun _ => ?_) (fun h => absurd rfl h)
  refine W.widen (k := cells + 1) (n := slots + 6) (by omega) (by omega) ?_
  exact tail Sc1 Sm1 fo H locs ls hr1 hw hl
def Op_step (Rel Rel' : S2 → S2 → Prop) : Prop := ∀ Sc Sm : S2, Rel Sc Sm → ∀ (a1 : Int) (a2 : Int) (a3 : Int), inR a1 → inR a2 → inR a3 → ∃ (N M : Nat) (r : Int) (Sc1 Sm1 : S2), f_X10_step N Sc a1 a2 a3 = some (r, Sc1) ∧ f_X11_step M Sm a1 a2 a3 = some (r, Sm1) ∧ Rel' Sc1 Sm1
set_option maxRecDepth 100000 in
set_option maxHeartbeats 4000000 in
theorem lawc_35 {p : Program} {l : Launch} {e : Env} {s : State} {m : MethodId} {below : List Frame} {meth : Method} {c : Code} {b L : Nat} {xs : Nat → Int32} {X XM : XT} {ao : Nat} (G : LawC p l s m meth c b L xs X XM ao) {Rel Rel' : S2 → S2 → Prop} (op : Op_step Rel Rel') {t cells slots : Nat} (ht : 6 * t + 6 ≤ L) (hc : cells + 1 ≤ 601024) (hs : slots + 6 ≤ 7293034) {Sc Sm : S2} {fo : Nat → Int64} {H : Heap} {locs : List Loc} {ls : Array Slot} (hr : Rel Sc Sm) (hw : LH X XM ao s.heap.size s.heap Sc Sm fo H locs) (hl : lv_has ls 7 (lvL t b (X.2.2 0) (XM.2.2 0) ao)) (tail : LTail p l e s m below meth c b X XM ao Rel' t (cells + 1) (slots + 6)) : W p l e room_1 s m #[Value.ref b] below meth c H locs cells slots (lw_Z below #[Value.ref b] s) (F0 m 1258 ls []) := by
  obtain ⟨hx, hb, hret, hml, hown, htbl, hX, hbl, hlocks, hgv⟩ := id G.1
  obtain ⟨-, CC, CM, hzx, D, hlt, hL⟩ := G
  obtain ⟨N, M, r, Sc1, Sm1, f1, f2, hr1⟩ := op Sc Sm hr ((xs (6 * t + 1)).toInt) ((xs (6 * t + 2)).toInt) ((xs (6 * t + 3)).toInt) (inR_toInt _) (inR_toInt _) (inR_toInt _)
  refine lv_aload_n hx hb dL_law_1258 rfl (lv_at hl 2 rfl) ?_
  refine l_ld hx hb hX hbl hw.2.2.2 hL ht (k := 1) (by decide) hl dL_law_1259 dL_law_1260 dL_law_1262 dL_law_1263 dL_law_1264 ?_
  refine l_ld hx hb hX hbl hw.2.2.2 hL ht (k := 2) (by decide) hl dL_law_1265 dL_law_1266 dL_law_1268 dL_law_1269 dL_law_1270 ?_
  refine l_ld hx hb hX hbl hw.2.2.2 hL ht (k := 3) (by decide) hl dL_law_1271 dL_law_1272 dL_law_1274 dL_law_1275 dL_law_1276 ?_
  refine q_C (rest := []) (rm := rmX10_step) (As := [.int (iz (xs (6 * t + 1)).toInt), .int (iz (xs (6 * t + 2)).toInt), .int (iz (xs (6 * t + 3)).toInt)]) (o := (r, Sc1)) CC D hw tw4_226 tw4_227 tw4_228 tw1_1 tw4_229 hd_X10_step rfl ⟨⟨rfl, rfl⟩, (Nat.le_of_ble_eq_true rfl), (Nat.le_of_ble_eq_true rfl)⟩ hl.1 rfl (Nat.le_of_ble_eq_true rfl) dL_law_1277 (by show cells ≤ 601024; omega) (by show slots ≤ 7293034; omega) (c_X10_step l X CC.2.2.2.1 (zc_ok X) N Sc ((xs (6 * t + 1)).toInt) ((xs (6 * t + 2)).toInt) ((xs (6 * t + 3)).toInt) (r, Sc1) f1) (fun H locs hw => ?_)
  refine lv_aload_n hx hb dL_law_1280 rfl (lv_at hl 3 rfl) ?_
  refine l_ld hx hb hX hbl hw.2.2.2 hL ht (k := 1) (by decide) hl dL_law_1281 dL_law_1282 dL_law_1284 dL_law_1285 dL_law_1286 ?_
  refine l_ld hx hb hX hbl hw.2.2.2 hL ht (k := 2) (by decide) hl dL_law_1287 dL_law_1288 dL_law_1290 dL_law_1291 dL_law_1292 ?_
  refine l_ld hx hb hX hbl hw.2.2.2 hL ht (k := 3) (by decide) hl dL_law_1293 dL_law_1294 dL_law_1296 dL_law_1297 dL_law_1298 ?_
  refine q_M (rest := [.int (iz r)]) (rm := rmX11_step) (As := [.int (iz (xs (6 * t + 1)).toInt), .int (iz (xs (6 * t + 2)).toInt), .int (iz (xs (6 * t + 3)).toInt)]) (o := (r, Sm1)) CM D hw tw8_71 tw8_72 tw8_73 tw1_12 tw8_74 hd_X11_step rfl ⟨⟨rfl, rfl⟩, (Nat.le_of_ble_eq_true rfl), (Nat.le_of_ble_eq_true rfl)⟩ hl.1 rfl (Nat.le_of_ble_eq_true rfl) dL_law_1299 (by show cells ≤ 601024; omega) (by show slots ≤ 7293034; omega) (c_X11_step l XM CM.2.2.2.1 (zm_ok XM) M Sm ((xs (6 * t + 1)).toInt) ((xs (6 * t + 2)).toInt) ((xs (6 * t + 3)).toInt) (r, Sm1) f2) (fun H locs hw => ?_)
  refine lv_icmp_eq (tgt := 1445) hx hb dL_law_1302 (by decide) (fun _ => ?_) (fun h => absurd rfl h)
  refine W.widen (k := cells + 1) (n := slots + 6) (by omega) (by omega) ?_
  exact tail Sc1 Sm1 fo H locs ls hr1 hw hl
def Op_run (Rel Rel' : S2 → S2 → Prop) : Prop := ∀ Sc Sm : S2, Rel Sc Sm → ∀ (a1 : Int) (a2 : Int), inR a1 → inR a2 → ∃ (N M : Nat) (r : Int) (Sc1 Sm1 : S2), f_X10_run N Sc a1 a2 = some (r, Sc1) ∧ f_X11_run M Sm a1 a2 = some (r, Sm1) ∧ Rel' Sc1 Sm1
set_option maxRecDepth 100000 in
set_option maxHeartbeats 4000000 in
theorem lawc_36 {p : Program} {l : Launch} {e : Env} {s : State} {m : MethodId} {below : List Frame} {meth : Method} {c : Code} {b L : Nat} {xs : Nat → Int32} {X XM : XT} {ao : Nat} (G : LawC p l s m meth c b L xs X XM ao) {Rel Rel' : S2 → S2 → Prop} (op : Op_run Rel Rel') {t cells slots : Nat} (ht : 6 * t + 6 ≤ L) (hc : cells + 1 ≤ 601024) (hs : slots + 6 ≤ 7293034) {Sc Sm : S2} {fo : Nat → Int64} {H : Heap} {locs : List Loc} {ls : Array Slot} (hr : Rel Sc Sm) (hw : LH X XM ao s.heap.size s.heap Sc Sm fo H locs) (hl : lv_has ls 7 (lvL t b (X.2.2 0) (XM.2.2 0) ao)) (tail : LTail p l e s m below meth c b X XM ao Rel' t (cells + 1) (slots + 6)) : W p l e room_1 s m #[Value.ref b] below meth c H locs cells slots (lw_Z below #[Value.ref b] s) (F0 m 1307 ls []) := by
  obtain ⟨hx, hb, hret, hml, hown, htbl, hX, hbl, hlocks, hgv⟩ := id G.1
  obtain ⟨-, CC, CM, hzx, D, hlt, hL⟩ := G
  obtain ⟨N, M, r, Sc1, Sm1, f1, f2, hr1⟩ := op Sc Sm hr ((xs (6 * t + 1)).toInt) ((xs (6 * t + 2)).toInt) (inR_toInt _) (inR_toInt _)
  refine lv_aload_n hx hb dL_law_1307 rfl (lv_at hl 2 rfl) ?_
  refine l_ld hx hb hX hbl hw.2.2.2 hL ht (k := 1) (by decide) hl dL_law_1308 dL_law_1309 dL_law_1311 dL_law_1312 dL_law_1313 ?_
  refine l_ld hx hb hX hbl hw.2.2.2 hL ht (k := 2) (by decide) hl dL_law_1314 dL_law_1315 dL_law_1317 dL_law_1318 dL_law_1319 ?_
  refine q_C (rest := []) (rm := rmX10_run) (As := [.int (iz (xs (6 * t + 1)).toInt), .int (iz (xs (6 * t + 2)).toInt)]) (o := (r, Sc1)) CC D hw tw5_0 tw5_1 tw5_2 tw1_1 tw5_3 hd_X10_run rfl ⟨⟨rfl, rfl⟩, (Nat.le_of_ble_eq_true rfl), (Nat.le_of_ble_eq_true rfl)⟩ hl.1 rfl (Nat.le_of_ble_eq_true rfl) dL_law_1320 (by show cells ≤ 601024; omega) (by show slots ≤ 7293034; omega) (c_X10_run l X CC.2.2.2.1 (zc_ok X) N Sc ((xs (6 * t + 1)).toInt) ((xs (6 * t + 2)).toInt) (r, Sc1) f1) (fun H locs hw => ?_)
  refine lv_aload_n hx hb dL_law_1323 rfl (lv_at hl 3 rfl) ?_
  refine l_ld hx hb hX hbl hw.2.2.2 hL ht (k := 1) (by decide) hl dL_law_1324 dL_law_1325 dL_law_1327 dL_law_1328 dL_law_1329 ?_
  refine l_ld hx hb hX hbl hw.2.2.2 hL ht (k := 2) (by decide) hl dL_law_1330 dL_law_1331 dL_law_1333 dL_law_1334 dL_law_1335 ?_
  refine q_M (rest := [.int (iz r)]) (rm := rmX11_run) (As := [.int (iz (xs (6 * t + 1)).toInt), .int (iz (xs (6 * t + 2)).toInt)]) (o := (r, Sm1)) CM D hw tw8_79 tw8_80 tw8_81 tw1_12 tw8_82 hd_X11_run rfl ⟨⟨rfl, rfl⟩, (Nat.le_of_ble_eq_true rfl), (Nat.le_of_ble_eq_true rfl)⟩ hl.1 rfl (Nat.le_of_ble_eq_true rfl) dL_law_1336 (by show cells ≤ 601024; omega) (by show slots ≤ 7293034; omega) (c_X11_run l XM CM.2.2.2.1 (zm_ok XM) M Sm ((xs (6 * t + 1)).toInt) ((xs (6 * t + 2)).toInt) (r, Sm1) f2) (fun H locs hw => ?_)
  refine lv_icmp_eq (tgt := 1445) hx hb dL_law_1339 (by decide) (fun _ => ?_) (fun h => absurd rfl h)
  refine W.widen (k := cells + 1) (n := slots + 6) (by omega) (by omega) ?_
  exact tail Sc1 Sm1 fo H locs ls hr1 hw hl
def Op_perform (Rel Rel' : S2 → S2 → Prop) : Prop := ∀ Sc Sm : S2, Rel Sc Sm → ∀ (a1 : Int), inR a1 → ∃ (N M : Nat) (r : Int) (Sc1 Sm1 : S2), f_X10_perform N Sc a1 = some (r, Sc1) ∧ f_X11_perform M Sm a1 = some (r, Sm1) ∧ Rel' Sc1 Sm1
set_option maxRecDepth 100000 in
set_option maxHeartbeats 4000000 in
theorem lawc_37 {p : Program} {l : Launch} {e : Env} {s : State} {m : MethodId} {below : List Frame} {meth : Method} {c : Code} {b L : Nat} {xs : Nat → Int32} {X XM : XT} {ao : Nat} (G : LawC p l s m meth c b L xs X XM ao) {Rel Rel' : S2 → S2 → Prop} (op : Op_perform Rel Rel') {t cells slots : Nat} (ht : 6 * t + 6 ≤ L) (hc : cells + 1 ≤ 601024) (hs : slots + 6 ≤ 7293034) {Sc Sm : S2} {fo : Nat → Int64} {H : Heap} {locs : List Loc} {ls : Array Slot} (hr : Rel Sc Sm) (hw : LH X XM ao s.heap.size s.heap Sc Sm fo H locs) (hl : lv_has ls 7 (lvL t b (X.2.2 0) (XM.2.2 0) ao)) (tail : LTail p l e s m below meth c b X XM ao Rel' t (cells + 1) (slots + 6)) : W p l e room_1 s m #[Value.ref b] below meth c H locs cells slots (lw_Z below #[Value.ref b] s) (F0 m 1344 ls []) := by
  obtain ⟨hx, hb, hret, hml, hown, htbl, hX, hbl, hlocks, hgv⟩ := id G.1
  obtain ⟨-, CC, CM, hzx, D, hlt, hL⟩ := G
  obtain ⟨N, M, r, Sc1, Sm1, f1, f2, hr1⟩ := op Sc Sm hr ((xs (6 * t + 1)).toInt) (inR_toInt _)
  refine lv_aload_n hx hb dL_law_1344 rfl (lv_at hl 2 rfl) ?_
  refine l_ld hx hb hX hbl hw.2.2.2 hL ht (k := 1) (by decide) hl dL_law_1345 dL_law_1346 dL_law_1348 dL_law_1349 dL_law_1350 ?_
  refine q_C (rest := []) (rm := rmX10_perform) (As := [.int (iz (xs (6 * t + 1)).toInt)]) (o := (r, Sc1)) CC D hw tw5_9 tw5_10 tw5_11 tw1_1 tw5_12 hd_X10_perform rfl ⟨⟨rfl, rfl⟩, (Nat.le_of_ble_eq_true rfl), (Nat.le_of_ble_eq_true rfl)⟩ hl.1 rfl (Nat.le_of_ble_eq_true rfl) dL_law_1351 (by show cells ≤ 601024; omega) (by show slots ≤ 7293034; omega) (c_X10_perform l X CC.2.2.2.1 (zc_ok X) N Sc ((xs (6 * t + 1)).toInt) (r, Sc1) f1) (fun H locs hw => ?_)
  refine lv_aload_n hx hb dL_law_1354 rfl (lv_at hl 3 rfl) ?_
  refine l_ld hx hb hX hbl hw.2.2.2 hL ht (k := 1) (by decide) hl dL_law_1355 dL_law_1356 dL_law_1358 dL_law_1359 dL_law_1360 ?_
  refine q_M (rest := [.int (iz r)]) (rm := rmX11_perform) (As := [.int (iz (xs (6 * t + 1)).toInt)]) (o := (r, Sm1)) CM D hw tw8_87 tw8_88 tw8_89 tw1_12 tw8_90 hd_X11_perform rfl ⟨⟨rfl, rfl⟩, (Nat.le_of_ble_eq_true rfl), (Nat.le_of_ble_eq_true rfl)⟩ hl.1 rfl (Nat.le_of_ble_eq_true rfl) dL_law_1361 (by show cells ≤ 601024; omega) (by show slots ≤ 7293034; omega) (c_X11_perform l XM CM.2.2.2.1 (zm_ok XM) M Sm ((xs (6 * t + 1)).toInt) (r, Sm1) f2) (fun H locs hw => ?_)
  refine lv_icmp_eq (tgt := 1445) hx hb dL_law_1364 (by decide) (fun _ => ?_) (fun h => absurd rfl h)
  refine W.widen (k := cells + 1) (n := slots + 6) (by omega) (by omega) ?_
  exact tail Sc1 Sm1 fo H locs ls hr1 hw hl
def Op_most (Rel Rel' : S2 → S2 → Prop) : Prop := ∀ Sc Sm : S2, Rel Sc Sm → ∀ (a1 : Int), inR a1 → ∃ (N M : Nat) (r : Int) (Sc1 Sm1 : S2), f_X10_most N Sc a1 = some (r, Sc1) ∧ f_X11_most M Sm a1 = some (r, Sm1) ∧ Rel' Sc1 Sm1
set_option maxRecDepth 100000 in
set_option maxHeartbeats 4000000 in
theorem lawc_38 {p : Program} {l : Launch} {e : Env} {s : State} {m : MethodId} {below : List Frame} {meth : Method} {c : Code} {b L : Nat} {xs : Nat → Int32} {X XM : XT} {ao : Nat} (G : LawC p l s m meth c b L xs X XM ao) {Rel Rel' : S2 → S2 → Prop} (op : Op_most Rel Rel') {t cells slots : Nat} (ht : 6 * t + 6 ≤ L) (hc : cells + 1 ≤ 601024) (hs : slots + 6 ≤ 7293034) {Sc Sm : S2} {fo : Nat → Int64} {H : Heap} {locs : List Loc} {ls : Array Slot} (hr : Rel Sc Sm) (hw : LH X XM ao s.heap.size s.heap Sc Sm fo H locs) (hl : lv_has ls 7 (lvL t b (X.2.2 0) (XM.2.2 0) ao)) (tail : LTail p l e s m below meth c b X XM ao Rel' t (cells + 1) (slots + 6)) : W p l e room_1 s m #[Value.ref b] below meth c H locs cells slots (lw_Z below #[Value.ref b] s) (F0 m 1369 ls []) := by
  obtain ⟨hx, hb, hret, hml, hown, htbl, hX, hbl, hlocks, hgv⟩ := id G.1
  obtain ⟨-, CC, CM, hzx, D, hlt, hL⟩ := G
  obtain ⟨N, M, r, Sc1, Sm1, f1, f2, hr1⟩ := op Sc Sm hr ((xs (6 * t + 1)).toInt) (inR_toInt _)
  refine lv_aload_n hx hb dL_law_1369 rfl (lv_at hl 2 rfl) ?_
  refine l_ld hx hb hX hbl hw.2.2.2 hL ht (k := 1) (by decide) hl dL_law_1370 dL_law_1371 dL_law_1373 dL_law_1374 dL_law_1375 ?_
  refine q_C (rest := []) (rm := rmX10_most) (As := [.int (iz (xs (6 * t + 1)).toInt)]) (o := (r, Sc1)) CC D hw tw5_13 tw5_14 tw5_15 tw1_1 tw5_16 hd_X10_most rfl ⟨⟨rfl, rfl⟩, (Nat.le_of_ble_eq_true rfl), (Nat.le_of_ble_eq_true rfl)⟩ hl.1 rfl (Nat.le_of_ble_eq_true rfl) dL_law_1376 (by show cells ≤ 601024; omega) (by show slots ≤ 7293034; omega) (c_X10_most l X CC.2.2.2.1 (zc_ok X) N Sc ((xs (6 * t + 1)).toInt) (r, Sc1) f1) (fun H locs hw => ?_)
  refine lv_aload_n hx hb dL_law_1379 rfl (lv_at hl 3 rfl) ?_
  refine l_ld hx hb hX hbl hw.2.2.2 hL ht (k := 1) (by decide) hl dL_law_1380 dL_law_1381 dL_law_1383 dL_law_1384 dL_law_1385 ?_
  refine q_M (rest := [.int (iz r)]) (rm := rmX11_most) (As := [.int (iz (xs (6 * t + 1)).toInt)]) (o := (r, Sm1)) CM D hw tw8_91 tw8_92 tw8_93 tw1_12 tw8_94 hd_X11_most rfl ⟨⟨rfl, rfl⟩, (Nat.le_of_ble_eq_true rfl), (Nat.le_of_ble_eq_true rfl)⟩ hl.1 rfl (Nat.le_of_ble_eq_true rfl) dL_law_1386 (by show cells ≤ 601024; omega) (by show slots ≤ 7293034; omega) (c_X11_most l XM CM.2.2.2.1 (zm_ok XM) M Sm ((xs (6 * t + 1)).toInt) (r, Sm1) f2) (fun H locs hw => ?_)
  refine lv_icmp_eq (tgt := 1445) hx hb dL_law_1389 (by decide) (fun _ => ?_) (fun h => absurd rfl h)
  refine W.widen (k := cells + 1) (n := slots + 6) (by omega) (by omega) ?_
  exact tail Sc1 Sm1 fo H locs ls hr1 hw hl
def Op_image (Rel Rel' : S2 → S2 → Prop) : Prop := ∀ Sc Sm : S2, Rel Sc Sm → ∃ (N M : Nat) (r : Int) (Sc1 Sm1 : S2), f_X10_image N Sc = some (r, Sc1) ∧ f_X11_image M Sm = some (r, Sm1) ∧ Rel' Sc1 Sm1
set_option maxRecDepth 100000 in
set_option maxHeartbeats 4000000 in
theorem lawc_39 {p : Program} {l : Launch} {e : Env} {s : State} {m : MethodId} {below : List Frame} {meth : Method} {c : Code} {b L : Nat} {xs : Nat → Int32} {X XM : XT} {ao : Nat} (G : LawC p l s m meth c b L xs X XM ao) {Rel Rel' : S2 → S2 → Prop} (op : Op_image Rel Rel') {t cells slots : Nat} (ht : 6 * t + 6 ≤ L) (hc : cells + 1 ≤ 601024) (hs : slots + 6 ≤ 7293034) {Sc Sm : S2} {fo : Nat → Int64} {H : Heap} {locs : List Loc} {ls : Array Slot} (hr : Rel Sc Sm) (hw : LH X XM ao s.heap.size s.heap Sc Sm fo H locs) (hl : lv_has ls 7 (lvL t b (X.2.2 0) (XM.2.2 0) ao)) (tail : LTail p l e s m below meth c b X XM ao Rel' t (cells + 1) (slots + 6)) : W p l e room_1 s m #[Value.ref b] below meth c H locs cells slots (lw_Z below #[Value.ref b] s) (F0 m 1394 ls []) := by
  obtain ⟨hx, hb, hret, hml, hown, htbl, hX, hbl, hlocks, hgv⟩ := id G.1
  obtain ⟨-, CC, CM, hzx, D, hlt, hL⟩ := G
  obtain ⟨N, M, r, Sc1, Sm1, f1, f2, hr1⟩ := op Sc Sm hr  
  refine lv_aload_n hx hb dL_law_1394 rfl (lv_at hl 2 rfl) ?_
  refine q_C (rest := []) (rm := rmX10_image) (As := []) (o := (r, Sc1)) CC D hw tw5_38 tw5_39 tw5_40 tw1_1 tw5_41 hd_X10_image rfl ⟨⟨rfl, rfl⟩, (Nat.le_of_ble_eq_true rfl), (Nat.le_of_ble_eq_true rfl)⟩ hl.1 rfl (Nat.le_of_ble_eq_true rfl) dL_law_1395 (by show cells ≤ 601024; omega) (by show slots ≤ 7293034; omega) (c_X10_image l X CC.2.2.2.1 (zc_ok X) N Sc  (r, Sc1) f1) (fun H locs hw => ?_)
  refine lv_aload_n hx hb dL_law_1398 rfl (lv_at hl 3 rfl) ?_
  refine q_M (rest := [.int (iz r)]) (rm := rmX11_image) (As := []) (o := (r, Sm1)) CM D hw tw8_2 tw8_3 tw8_4 tw1_12 tw8_5 hd_X11_image rfl ⟨⟨rfl, rfl⟩, (Nat.le_of_ble_eq_true rfl), (Nat.le_of_ble_eq_true rfl)⟩ hl.1 rfl (Nat.le_of_ble_eq_true rfl) dL_law_1399 (by show cells ≤ 601024; omega) (by show slots ≤ 7293034; omega) (c_X11_image l XM CM.2.2.2.1 (zm_ok XM) M Sm  (r, Sm1) f2) (fun H locs hw => ?_)
  refine lv_icmp_eq (tgt := 1445) hx hb dL_law_1402 (by decide) (fun _ => ?_) (fun h => absurd rfl h)
  refine W.widen (k := cells + 1) (n := slots + 6) (by omega) (by omega) ?_
  exact tail Sc1 Sm1 fo H locs ls hr1 hw hl
def Op_back (Rel Rel' : S2 → S2 → Prop) : Prop := ∀ Sc Sm : S2, Rel Sc Sm → ∃ (N M : Nat) (r : Int) (Sc1 Sm1 : S2), f_X10_back N Sc = some (r, Sc1) ∧ f_X11_back M Sm = some (r, Sm1) ∧ Rel' Sc1 Sm1
set_option maxRecDepth 100000 in
set_option maxHeartbeats 4000000 in
theorem lawc_40 {p : Program} {l : Launch} {e : Env} {s : State} {m : MethodId} {below : List Frame} {meth : Method} {c : Code} {b L : Nat} {xs : Nat → Int32} {X XM : XT} {ao : Nat} (G : LawC p l s m meth c b L xs X XM ao) {Rel Rel' : S2 → S2 → Prop} (op : Op_back Rel Rel') {t cells slots : Nat} (ht : 6 * t + 6 ≤ L) (hc : cells + 1 ≤ 601024) (hs : slots + 6 ≤ 7293034) {Sc Sm : S2} {fo : Nat → Int64} {H : Heap} {locs : List Loc} {ls : Array Slot} (hr : Rel Sc Sm) (hw : LH X XM ao s.heap.size s.heap Sc Sm fo H locs) (hl : lv_has ls 7 (lvL t b (X.2.2 0) (XM.2.2 0) ao)) (tail : LTail p l e s m below meth c b X XM ao Rel' t (cells + 1) (slots + 6)) : W p l e room_1 s m #[Value.ref b] below meth c H locs cells slots (lw_Z below #[Value.ref b] s) (F0 m 1407 ls []) := by
  obtain ⟨hx, hb, hret, hml, hown, htbl, hX, hbl, hlocks, hgv⟩ := id G.1
  obtain ⟨-, CC, CM, hzx, D, hlt, hL⟩ := G
  obtain ⟨N, M, r, Sc1, Sm1, f1, f2, hr1⟩ := op Sc Sm hr  
  refine lv_aload_n hx hb dL_law_1407 rfl (lv_at hl 2 rfl) ?_
  refine q_C (rest := []) (rm := rmX10_back) (As := []) (o := (r, Sc1)) CC D hw tw5_47 tw5_48 tw5_49 tw1_1 tw5_50 hd_X10_back rfl ⟨⟨rfl, rfl⟩, (Nat.le_of_ble_eq_true rfl), (Nat.le_of_ble_eq_true rfl)⟩ hl.1 rfl (Nat.le_of_ble_eq_true rfl) dL_law_1408 (by show cells ≤ 601024; omega) (by show slots ≤ 7293034; omega) (c_X10_back l X CC.2.2.2.1 (zc_ok X) N Sc  (r, Sc1) f1) (fun H locs hw => ?_)
  refine lv_aload_n hx hb dL_law_1411 rfl (lv_at hl 3 rfl) ?_
  refine q_M (rest := [.int (iz r)]) (rm := rmX11_back) (As := []) (o := (r, Sm1)) CM D hw tw8_6 tw8_7 tw8_8 tw1_12 tw8_9 hd_X11_back rfl ⟨⟨rfl, rfl⟩, (Nat.le_of_ble_eq_true rfl), (Nat.le_of_ble_eq_true rfl)⟩ hl.1 rfl (Nat.le_of_ble_eq_true rfl) dL_law_1412 (by show cells ≤ 601024; omega) (by show slots ≤ 7293034; omega) (c_X11_back l XM CM.2.2.2.1 (zm_ok XM) M Sm  (r, Sm1) f2) (fun H locs hw => ?_)
  refine lv_icmp_eq (tgt := 1445) hx hb dL_law_1415 (by decide) (fun _ => ?_) (fun h => absurd rfl h)
  refine W.widen (k := cells + 1) (n := slots + 6) (by omega) (by omega) ?_
  exact tail Sc1 Sm1 fo H locs ls hr1 hw hl
def Op_held (Rel Rel' : S2 → S2 → Prop) : Prop := ∀ Sc Sm : S2, Rel Sc Sm → ∀ (a1 : Int), inR a1 → ∃ (N M : Nat) (r : Int) (Sc1 Sm1 : S2), f_X10_held N Sc a1 = some (r, Sc1) ∧ f_X11_held M Sm a1 = some (r, Sm1) ∧ Rel' Sc1 Sm1
set_option maxRecDepth 100000 in
set_option maxHeartbeats 4000000 in
theorem lawc_41 {p : Program} {l : Launch} {e : Env} {s : State} {m : MethodId} {below : List Frame} {meth : Method} {c : Code} {b L : Nat} {xs : Nat → Int32} {X XM : XT} {ao : Nat} (G : LawC p l s m meth c b L xs X XM ao) {Rel Rel' : S2 → S2 → Prop} (op : Op_held Rel Rel') {t cells slots : Nat} (ht : 6 * t + 6 ≤ L) (hc : cells + 1 ≤ 601024) (hs : slots + 6 ≤ 7293034) {Sc Sm : S2} {fo : Nat → Int64} {H : Heap} {locs : List Loc} {ls : Array Slot} (hr : Rel Sc Sm) (hw : LH X XM ao s.heap.size s.heap Sc Sm fo H locs) (hl : lv_has ls 7 (lvL t b (X.2.2 0) (XM.2.2 0) ao)) (tail : LTail p l e s m below meth c b X XM ao Rel' t (cells + 1) (slots + 6)) : W p l e room_1 s m #[Value.ref b] below meth c H locs cells slots (lw_Z below #[Value.ref b] s) (F0 m 1420 ls []) := by
  obtain ⟨hx, hb, hret, hml, hown, htbl, hX, hbl, hlocks, hgv⟩ := id G.1
  obtain ⟨-, CC, CM, hzx, D, hlt, hL⟩ := G
  obtain ⟨N, M, r, Sc1, Sm1, f1, f2, hr1⟩ := op Sc Sm hr ((xs (6 * t + 1)).toInt) (inR_toInt _)
  refine lv_aload_n hx hb dL_law_1420 rfl (lv_at hl 2 rfl) ?_
  refine l_ld hx hb hX hbl hw.2.2.2 hL ht (k := 1) (by decide) hl dL_law_1421 dL_law_1422 dL_law_1424 dL_law_1425 dL_law_1426 ?_
  refine q_C (rest := []) (rm := rmX10_held) (As := [.int (iz (xs (6 * t + 1)).toInt)]) (o := (r, Sc1)) CC D hw tw5_51 tw5_52 tw5_53 tw1_1 tw5_54 hd_X10_held rfl ⟨⟨rfl, rfl⟩, (Nat.le_of_ble_eq_true rfl), (Nat.le_of_ble_eq_true rfl)⟩ hl.1 rfl (Nat.le_of_ble_eq_true rfl) dL_law_1427 (by show cells ≤ 601024; omega) (by show slots ≤ 7293034; omega) (c_X10_held l X CC.2.2.2.1 (zc_ok X) N Sc ((xs (6 * t + 1)).toInt) (r, Sc1) f1) (fun H locs hw => ?_)
  refine lv_aload_n hx hb dL_law_1430 rfl (lv_at hl 3 rfl) ?_
  refine l_ld hx hb hX hbl hw.2.2.2 hL ht (k := 1) (by decide) hl dL_law_1431 dL_law_1432 dL_law_1434 dL_law_1435 dL_law_1436 ?_
  refine q_M (rest := [.int (iz r)]) (rm := rmX11_held) (As := [.int (iz (xs (6 * t + 1)).toInt)]) (o := (r, Sm1)) CM D hw tw8_111 tw8_112 tw8_113 tw1_12 tw8_114 hd_X11_held rfl ⟨⟨rfl, rfl⟩, (Nat.le_of_ble_eq_true rfl), (Nat.le_of_ble_eq_true rfl)⟩ hl.1 rfl (Nat.le_of_ble_eq_true rfl) dL_law_1437 (by show cells ≤ 601024; omega) (by show slots ≤ 7293034; omega) (c_X11_held l XM CM.2.2.2.1 (zm_ok XM) M Sm ((xs (6 * t + 1)).toInt) (r, Sm1) f2) (fun H locs hw => ?_)
  refine lv_icmp_eq (tgt := 1445) hx hb dL_law_1440 (by decide) (fun _ => ?_) (fun h => absurd rfl h)
  refine W.widen (k := cells + 1) (n := slots + 6) (by omega) (by omega) ?_
  exact tail Sc1 Sm1 fo H locs ls hr1 hw hl
def Op_peak (Rel Rel' : S2 → S2 → Prop) : Prop := ∀ Sc Sm : S2, Rel Sc Sm → ∀ a1 a2 : Int, inR a1 → inR a2 → ∃ (N M K : Nat) (o : Option Int) (bv th : Int) (Sc1 Sm1 Sm2 : S2), f_X10_peak N Sc a1 a2 = some (o, Sc1) ∧ f_X11_peak M Sm a1 a2 = some (bv, Sm1) ∧ f_X11_thrown K Sm1 = some (th, Sm2) ∧ th = (if o.isSome then 0 else 1) ∧ (∀ v, o = some v → v = bv) ∧ Rel' Sc1 Sm2
set_option maxRecDepth 100000 in
set_option maxHeartbeats 4000000 in
theorem lawc_6 {p : Program} {l : Launch} {e : Env} {s : State} {m : MethodId} {below : List Frame} {meth : Method} {c : Code} {b L : Nat} {xs : Nat → Int32} {X XM : XT} {ao : Nat} (G : LawC p l s m meth c b L xs X XM ao) {Rel Rel' : S2 → S2 → Prop} (op : Op_peak Rel Rel') {t cells slots : Nat} (ht : 6 * t + 6 ≤ L) (hc : cells + 1 ≤ 601024) (hs : slots + 6 ≤ 7293034) {Sc Sm : S2} {fo : Nat → Int64} {H : Heap} {locs : List Loc} {ls : Array Slot} (hr : Rel Sc Sm) (hw : LH X XM ao s.heap.size s.heap Sc Sm fo H locs) (hl : lv_has ls 7 (lvL t b (X.2.2 0) (XM.2.2 0) ao)) (tail : LTail p l e s m below meth c b X XM ao Rel' t (cells + 1) (slots + 6)) : W p l e room_1 s m #[Value.ref b] below meth c H locs cells slots (lw_Z below #[Value.ref b] s) (F0 m 422 ls []) := by
  obtain ⟨hx, hb, hret, hml, hown, htbl, hX, hbl, hlocks, hgv⟩ := id G.1
  obtain ⟨-, CC, CM, hzx, D, hlt, hL⟩ := G
  obtain ⟨N, M, K, o, bv, th, Sc1, Sm1, Sm2, f1, f2, f3, hth, hv, hr1⟩ := op Sc Sm hr (xs (6 * t + 1)).toInt (xs (6 * t + 2)).toInt (inR_toInt _) (inR_toInt _)
  refine lv_aload_n hx hb dL_law_422 rfl (lv_at hl 2 rfl) ?_
  refine l_ld hx hb hX hbl hw.2.2.2 hL ht (k := 1) (by decide) hl dL_law_423 dL_law_424 dL_law_426 dL_law_427 dL_law_428 ?_
  refine l_ld hx hb hX hbl hw.2.2.2 hL ht (k := 2) (by decide) hl dL_law_429 dL_law_430 dL_law_432 dL_law_433 dL_law_434 ?_
  refine lv_aload_n hx hb dL_law_435 rfl (lv_at hl 4 rfl) ?_
  refine q_L (rest := []) hlt CC hzx D hw tw5_56 tw5_57 tw1_0 (um_5 (List.mem_of_getElem? (i := 58) rfl) rfl) ⟨(Nat.le_of_ble_eq_true rfl), (Nat.le_of_ble_eq_true rfl)⟩ hl.1 rfl (Nat.le_of_ble_eq_true rfl) dL_law_436 (by show cells + 1 ≤ 601024; omega) (by show slots + 6 ≤ 7293034; omega) f1 (fun fo1 H locs hw hfo => ?_)
  refine lv_istore (lv' := (5, .int (iz (if o.isSome then 0 else 1))) :: lvL t b (X.2.2 0) (XM.2.2 0) ao) hx hb dL_law_439 hl (by decide) rfl (fun ls hl => ?_)
  have hl5 := hl
  have hl : lv_has ls 7 ((4, .int (iz ((6 * t : Nat) : Int))) :: (0, .ref b) :: [(1, .ref (X.2.2 0)), (2, .ref (XM.2.2 0)), (3, .ref ao), (5, .int (iz (if o.isSome then 0 else 1)))]) := lv_sub hl [1, 2, 3, 4, 5, 0] rfl
  refine lv_aload_n hx hb dL_law_441 rfl (lv_at hl 3 rfl) ?_
  refine l_ld hx hb hX hbl hw.2.2.2 hL ht (k := 1) (by decide) hl dL_law_442 dL_law_443 dL_law_445 dL_law_446 dL_law_447 ?_
  refine l_ld hx hb hX hbl hw.2.2.2 hL ht (k := 2) (by decide) hl dL_law_448 dL_law_449 dL_law_451 dL_law_452 dL_law_453 ?_
  refine q_M (rest := []) (rm := rmX11_peak) (As := [.int (iz (xs (6 * t + 1)).toInt), .int (iz (xs (6 * t + 2)).toInt)]) (o := (bv, Sm1)) CM D hw tw7_162 tw7_163 tw7_164 tw1_12 tw7_165 hd_X11_peak rfl ⟨⟨rfl, rfl⟩, (Nat.le_of_ble_eq_true rfl), (Nat.le_of_ble_eq_true rfl)⟩ hl.1 rfl (Nat.le_of_ble_eq_true rfl) dL_law_454 (by show cells + 1 ≤ 601024; omega) (by show slots + 6 ≤ 7293034; omega) (c_X11_peak l XM CM.2.2.2.1 (zm_ok XM) M Sm ((xs (6 * t + 1)).toInt) ((xs (6 * t + 2)).toInt) (bv, Sm1) f2) (fun H locs hw => ?_)
  refine lv_istore (lv' := (6, .int (iz bv)) :: (4, .int (iz ((6 * t : Nat) : Int))) :: (0, .ref b) :: [(1, .ref (X.2.2 0)), (2, .ref (XM.2.2 0)), (3, .ref ao), (5, .int (iz (if o.isSome then 0 else 1)))]) hx hb dL_law_457 hl (by decide) rfl (fun ls hl => ?_)
  refine lv_aload_n hx hb dL_law_459 rfl (lv_at hl 4 rfl) ?_
  refine q_M (rest := []) (rm := rmX11_thrown) (As := []) (o := (th, Sm2)) CM D hw tw6_62 tw6_63 tw6_64 tw1_12 tw6_65 hd_X11_thrown rfl ⟨⟨rfl, rfl⟩, (Nat.le_of_ble_eq_true rfl), (Nat.le_of_ble_eq_true rfl)⟩ hl.1 rfl (Nat.le_of_ble_eq_true rfl) dL_law_460 (by show cells + 1 ≤ 601024; omega) (by show slots + 6 ≤ 7293034; omega) (c_X11_thrown l XM CM.2.2.2.1 (zm_ok XM) K Sm1 (th, Sm2) f3) (fun H locs hw => ?_)
  refine lv_iload hx hb dL_law_463 (lv_at hl 6 rfl) ?_
  refine lv_icmp_eq (tgt := 470) hx hb dL_law_465 (by decide) (fun _ => ?_) (fun h => absurd (by rw [hth]) h)
  have hlt5 : lv_has ls 7 (lvL t b (X.2.2 0) (XM.2.2 0) ao) := lv_sub hl [1, 2, 3, 4, 5] rfl
  have fin : ∀ st : List Value, st = [] → W p l e room_1 s m #[Value.ref b] below meth c H locs (cells + 1) (slots + 6) (lw_Z below #[Value.ref b] s) (F0 m 487 ls st) := fun st hst => by
    subst hst
    refine lv_goto (tgt := 1445) hx hb dL_law_487 (by decide) ?_
    exact tail Sc1 Sm2 fo1 H locs ls hr1 hw hlt5
  refine lv_iload hx hb dL_law_470 (lv_at hl 6 rfl) ?_
  cases o with
  | none => refine lv_if_ne (tgt := 487) hx hb dL_law_472 (by decide) (fun _ => fin _ rfl) (fun h => absurd h (by decide))
  | some v =>
    refine lv_if_ne (tgt := 487) hx hb dL_law_472 (by decide) (fun h => absurd (by show iz 0 = 0; decide) h) (fun _ => ?_)
    refine lv_aload_n hx hb dL_law_475 rfl (lv_at hl 5 rfl) ?_
    refine lv_iconst (v := iz 0) hx hb dL_law_476 (by decide) ?_
    refine va_lald hx hb CC.2.2.2.2.1 hw.2.2.1 0 2 (f := fo1) (n := 1) (cA := X.2.1 2) rfl rfl (iz_vp (by decide) (by decide) (by decide)) dL_law_477 ?_
    have e0 : fo1 (iz 0).toNatClampNeg = (iz bv).toInt64 := by rw [show (iz 0).toNatClampNeg = 0 from by decide, hfo v rfl, hv v rfl]
    rw [e0]
    refine lv_iload hx hb dL_law_478 (lv_at hl 0 rfl) ?_
    refine lv_i2l (v := (iz bv).toInt64) hx hb dL_law_480 rfl ?_
    refine W.lcmp hx hb dL_law_481 ?_
    have ec : lg_cmp ((iz bv).toInt64) ((iz bv).toInt64) = 0 := by unfold lg_cmp; simp
    refine lv_if_eq (tgt := 487) hx hb dL_law_482 (by decide) (fun _ => fin _ rfl) (fun h => absurd ec h)
