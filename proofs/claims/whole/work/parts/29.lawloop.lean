/-- every call keeps Rel, and both sides answer alike -/
def OpsT (Rel Rel' : S2 → S2 → Prop) : Prop := Op_feed Rel Rel' ∧ Op_end Rel Rel' ∧ Op_fault Rel Rel' ∧ Op_text Rel Rel' ∧ Op_rule Rel Rel' ∧ Op_sample Rel Rel' ∧ Op_peak Rel Rel' ∧ Op_basin Rel Rel' ∧ Op_at Rel Rel' ∧ Op_line Rel Rel' ∧ Op_smooth Rel Rel' ∧ Op_median Rel Rel' ∧ Op_flat Rel Rel' ∧ Op_turn Rel Rel' ∧ Op_clip Rel Rel' ∧ Op_lift Rel Rel' ∧ Op_scale Rel Rel' ∧ Op_set Rel Rel' ∧ Op_noise Rel Rel' ∧ Op_cut Rel Rel' ∧ Op_ways Rel Rel' ∧ Op_status Rel Rel' ∧ Op_undo Rel Rel' ∧ Op_log Rel Rel' ∧ Op_noiseFor Rel Rel' ∧ Op_pieces Rel Rel' ∧ Op_room Rel Rel' ∧ Op_unlike Rel Rel' ∧ Op_shift Rel Rel' ∧ Op_missed Rel Rel' ∧ Op_would Rel Rel' ∧ Op_solo Rel Rel' ∧ Op_tallest Rel Rel' ∧ Op_change Rel Rel' ∧ Op_spell Rel Rel' ∧ Op_step Rel Rel' ∧ Op_run Rel Rel' ∧ Op_perform Rel Rel' ∧ Op_most Rel Rel' ∧ Op_image Rel Rel' ∧ Op_back Rel Rel' ∧ Op_held Rel Rel' ∧ (∀ Sc Sm, Rel Sc Sm → Rel' Sc Sm)
/-- call number t leads from Rel t to Rel (t + 1) -/
def Ops (Rel : Nat → S2 → S2 → Prop) : Prop := ∀ t, t < 600 → OpsT (Rel t) (Rel (t + 1))
set_option maxRecDepth 100000 in
set_option maxHeartbeats 4000000 in
theorem law_loop {p : Program} {l : Launch} {e : Env} {s : State} {m : MethodId} {below : List Frame} {meth : Method} {c : Code} {b L : Nat} {xs : Nat → Int32} {X XM : XT} {ao : Nat} (G : LawC p l s m meth c b L xs X XM ao) {Rel : Nat → S2 → S2 → Prop} (O : Ops Rel) : ∀ (d t cells slots : Nat), L < 6 * t + 6 + 6 * d → t + d ≤ 600 → cells + d ≤ 601024 → slots + 6 * d ≤ 7293034 → ∀ (Sc Sm : S2) (fo : Nat → Int64) (H : Heap) (locs : List Loc) (ls : Array Slot), Rel t Sc Sm → LH X XM ao s.heap.size s.heap Sc Sm fo H locs → lv_has ls 7 (lvL t b (X.2.2 0) (XM.2.2 0) ao) → W p l e room_1 s m #[Value.ref b] below meth c H locs cells slots (lw_Z below #[Value.ref b] s) (F0 m 23 ls []) := by
  obtain ⟨hx, hb, hret, hml, hown, htbl, hX, hbl, hlocks, hgv⟩ := id G.1
  have hL : L ≤ 3072 := G.2.2.2.2.2.2
  intro d
  induction d with
  | zero =>
    intro t cells slots hd htd hc hs Sc Sm fo H locs ls hr hw hl
    refine lv_iload hx hb dL_law_23 (lv_at hl 0 rfl) ?_
    refine lv_aload_n hx hb dL_law_25 rfl (lv_at hl 1 rfl) ?_
    refine va_slen hx hb hX hbl (Nat.not_le.mpr hbl) hw.2.2.2 dL_law_26 ?_
    refine lv_bipush (v := iz 6) hx hb dL_law_27 (by decide) ?_
    refine lv_isub hx hb dL_law_29 ?_
    rw [show Int32.ofNat L = iz (L : Int) from rfl, iz_sub]
    refine lv_icmp_gt (tgt := 1451) hx hb dL_law_30 (by decide) (fun _ => ?_) (fun h => absurd ((iz_lt ⟨by omega, by omega⟩ ⟨by omega, by omega⟩).mpr (by omega)) h)
    refine lv_iconst (v := 1) hx hb dL_law_1451 (by decide) ?_
    refine va_forget (fun q hq => hw.2.2.2.2.2 q hq) ?_
    refine W.widen (k := 601024) (n := 7293034) (by omega) (by omega) ?_
    exact lw_ret hx hb hret hlocks dL_law_1452
  | succ d ih =>
    intro t cells slots hd htd hc hs Sc Sm fo H locs ls hr hw hl
    have hO := O t (by omega)
    have tail : LTail p l e s m below meth c b X XM ao (Rel (t + 1)) t (cells + 1) (slots + 6) := fun Sc Sm fo H locs ls hr hw hl => by
      refine lv_iinc (v := iz ((6 * (t + 1) : Nat) : Int)) (lv' := lvL (t + 1) b (X.2.2 0) (XM.2.2 0) ao) hx hb dL_law_1445 hl (k := 0) rfl ?_ (by decide) rfl (fun ls hl => ?_)
      · have : ((6 * (t + 1) : Nat) : Int) = ((6 * t : Nat) : Int) + 6 := by omega
        rw [this]; exact iz_add _ _
      · refine lv_goto (tgt := 23) hx hb dL_law_1448 (by decide) ?_
        exact ih (t + 1) (cells + 1) (slots + 6) (by omega) (by omega) (by omega) (by omega) Sc Sm fo H locs ls hr hw hl
    refine lv_iload hx hb dL_law_23 (lv_at hl 0 rfl) ?_
    refine lv_aload_n hx hb dL_law_25 rfl (lv_at hl 1 rfl) ?_
    refine va_slen hx hb hX hbl (Nat.not_le.mpr hbl) hw.2.2.2 dL_law_26 ?_
    refine lv_bipush (v := iz 6) hx hb dL_law_27 (by decide) ?_
    refine lv_isub hx hb dL_law_29 ?_
    rw [show Int32.ofNat L = iz (L : Int) from rfl, iz_sub]
    by_cases hin : ¬ 6 * t + 6 ≤ L
    · skip
      refine lv_icmp_gt (tgt := 1451) hx hb dL_law_30 (by decide) (fun _ => ?_) (fun h => absurd ((iz_lt ⟨by omega, by omega⟩ ⟨by omega, by omega⟩).mpr (by omega)) h)
      refine lv_iconst (v := 1) hx hb dL_law_1451 (by decide) ?_
      refine va_forget (fun q hq => hw.2.2.2.2.2 q hq) ?_
      refine W.widen (k := 601024) (n := 7293034) (by omega) (by omega) ?_
      exact lw_ret hx hb hret hlocks dL_law_1452
    have hin : 6 * t + 6 ≤ L := by omega
    refine lv_icmp_gt (tgt := 1451) hx hb dL_law_30 (by decide) (fun h => absurd ((iz_lt ⟨by omega, by omega⟩ ⟨by omega, by omega⟩).mp h) (by omega)) (fun _ => ?_)
    refine lv_aload_n hx hb dL_law_33 rfl (lv_at hl 1 rfl) ?_
    refine lv_iload hx hb dL_law_34 (lv_at hl 0 rfl) ?_
    refine va_sld hx hb hX hbl (Nat.not_le.mpr hbl) hw.2.2.2 (iz_vp (by omega) (by omega) (by omega)) dL_law_36 ?_
    refine lv_bipush (v := 63) hx hb dL_law_37 (by decide) ?_
    refine lv_iand hx hb dL_law_39 ?_
    generalize xs ((iz ((6 * t : Nat) : Int)).toNatClampNeg) &&& 63 = w
    by_cases h0 : w.toInt = 0
    · exact lv_tableIn (tgt := 224) hx hb dL_law_40 (by rw [h0]; decide) (by rw [h0]; decide) (by rw [h0]; rfl) (by decide) (lawc_0 G (hO.1) hin (by omega) (by omega) hr hw hl tail)
    by_cases h1 : w.toInt = 1
    · exact lv_tableIn (tgt := 297) hx hb dL_law_40 (by rw [h1]; decide) (by rw [h1]; decide) (by rw [h1]; rfl) (by decide) (lawc_1 G (hO.2.1) hin (by omega) (by omega) hr hw hl tail)
    by_cases h2 : w.toInt = 2
    · exact lv_tableIn (tgt := 322) hx hb dL_law_40 (by rw [h2]; decide) (by rw [h2]; decide) (by rw [h2]; rfl) (by decide) (lawc_2 G (hO.2.2.1) hin (by omega) (by omega) hr hw hl tail)
    by_cases h3 : w.toInt = 3
    · exact lv_tableIn (tgt := 347) hx hb dL_law_40 (by rw [h3]; decide) (by rw [h3]; decide) (by rw [h3]; rfl) (by decide) (lawc_3 G (hO.2.2.2.1) hin (by omega) (by omega) hr hw hl tail)
    by_cases h4 : w.toInt = 4
    · exact lv_tableIn (tgt := 372) hx hb dL_law_40 (by rw [h4]; decide) (by rw [h4]; decide) (by rw [h4]; rfl) (by decide) (lawc_4 G (hO.2.2.2.2.1) hin (by omega) (by omega) hr hw hl tail)
    by_cases h5 : w.toInt = 5
    · exact lv_tableIn (tgt := 397) hx hb dL_law_40 (by rw [h5]; decide) (by rw [h5]; decide) (by rw [h5]; rfl) (by decide) (lawc_5 G (hO.2.2.2.2.2.1) hin (by omega) (by omega) hr hw hl tail)
    by_cases h6 : w.toInt = 6
    · exact lv_tableIn (tgt := 422) hx hb dL_law_40 (by rw [h6]; decide) (by rw [h6]; decide) (by rw [h6]; rfl) (by decide) (lawc_6 G (hO.2.2.2.2.2.2.1) hin (by omega) (by omega) hr hw hl tail)
    by_cases h7 : w.toInt = 7
    · exact lv_tableIn (tgt := 490) hx hb dL_law_40 (by rw [h7]; decide) (by rw [h7]; decide) (by rw [h7]; rfl) (by decide) (lawc_7 G (hO.2.2.2.2.2.2.2.1) hin (by omega) (by omega) hr hw hl tail)
    by_cases h8 : w.toInt = 8
    · exact lv_tableIn (tgt := 527) hx hb dL_law_40 (by rw [h8]; decide) (by rw [h8]; decide) (by rw [h8]; rfl) (by decide) (lawc_8 G (hO.2.2.2.2.2.2.2.2.1) hin (by omega) (by omega) hr hw hl tail)
    by_cases h9 : w.toInt = 9
    · exact lv_tableIn (tgt := 564) hx hb dL_law_40 (by rw [h9]; decide) (by rw [h9]; decide) (by rw [h9]; rfl) (by decide) (lawc_9 G (hO.2.2.2.2.2.2.2.2.2.1) hin (by omega) (by omega) hr hw hl tail)
    by_cases h10 : w.toInt = 10
    · exact lv_tableIn (tgt := 601) hx hb dL_law_40 (by rw [h10]; decide) (by rw [h10]; decide) (by rw [h10]; rfl) (by decide) (lawc_10 G (hO.2.2.2.2.2.2.2.2.2.2.1) hin (by omega) (by omega) hr hw hl tail)
    by_cases h11 : w.toInt = 11
    · exact lv_tableIn (tgt := 614) hx hb dL_law_40 (by rw [h11]; decide) (by rw [h11]; decide) (by rw [h11]; rfl) (by decide) (lawc_11 G (hO.2.2.2.2.2.2.2.2.2.2.2.1) hin (by omega) (by omega) hr hw hl tail)
    by_cases h12 : w.toInt = 12
    · exact lv_tableIn (tgt := 627) hx hb dL_law_40 (by rw [h12]; decide) (by rw [h12]; decide) (by rw [h12]; rfl) (by decide) (lawc_12 G (hO.2.2.2.2.2.2.2.2.2.2.2.2.1) hin (by omega) (by omega) hr hw hl tail)
    by_cases h13 : w.toInt = 13
    · exact lv_tableIn (tgt := 640) hx hb dL_law_40 (by rw [h13]; decide) (by rw [h13]; decide) (by rw [h13]; rfl) (by decide) (lawc_13 G (hO.2.2.2.2.2.2.2.2.2.2.2.2.2.1) hin (by omega) (by omega) hr hw hl tail)
    by_cases h14 : w.toInt = 14
    · exact lv_tableIn (tgt := 653) hx hb dL_law_40 (by rw [h14]; decide) (by rw [h14]; decide) (by rw [h14]; rfl) (by decide) (lawc_14 G (hO.2.2.2.2.2.2.2.2.2.2.2.2.2.2.1) hin (by omega) (by omega) hr hw hl tail)
    by_cases h15 : w.toInt = 15
    · exact lv_tableIn (tgt := 678) hx hb dL_law_40 (by rw [h15]; decide) (by rw [h15]; decide) (by rw [h15]; rfl) (by decide) (lawc_15 G (hO.2.2.2.2.2.2.2.2.2.2.2.2.2.2.2.1) hin (by omega) (by omega) hr hw hl tail)
    by_cases h16 : w.toInt = 16
    · exact lv_tableIn (tgt := 703) hx hb dL_law_40 (by rw [h16]; decide) (by rw [h16]; decide) (by rw [h16]; rfl) (by decide) (lawc_16 G (hO.2.2.2.2.2.2.2.2.2.2.2.2.2.2.2.2.1) hin (by omega) (by omega) hr hw hl tail)
    by_cases h17 : w.toInt = 17
    · exact lv_tableIn (tgt := 740) hx hb dL_law_40 (by rw [h17]; decide) (by rw [h17]; decide) (by rw [h17]; rfl) (by decide) (lawc_17 G (hO.2.2.2.2.2.2.2.2.2.2.2.2.2.2.2.2.2.1) hin (by omega) (by omega) hr hw hl tail)
    by_cases h18 : w.toInt = 18
    · exact lv_tableIn (tgt := 777) hx hb dL_law_40 (by rw [h18]; decide) (by rw [h18]; decide) (by rw [h18]; rfl) (by decide) (lawc_18 G (hO.2.2.2.2.2.2.2.2.2.2.2.2.2.2.2.2.2.2.1) hin (by omega) (by omega) hr hw hl tail)
    by_cases h19 : w.toInt = 19
    · exact lv_tableIn (tgt := 802) hx hb dL_law_40 (by rw [h19]; decide) (by rw [h19]; decide) (by rw [h19]; rfl) (by decide) (lawc_19 G (hO.2.2.2.2.2.2.2.2.2.2.2.2.2.2.2.2.2.2.2.1) hin (by omega) (by omega) hr hw hl tail)
    by_cases h20 : w.toInt = 20
    · exact lv_tableIn (tgt := 839) hx hb dL_law_40 (by rw [h20]; decide) (by rw [h20]; decide) (by rw [h20]; rfl) (by decide) (lawc_20 G (hO.2.2.2.2.2.2.2.2.2.2.2.2.2.2.2.2.2.2.2.2.1) hin (by omega) (by omega) hr hw hl tail)
    by_cases h21 : w.toInt = 21
    · exact lv_tableIn (tgt := 908) hx hb dL_law_40 (by rw [h21]; decide) (by rw [h21]; decide) (by rw [h21]; rfl) (by decide) (lawc_21 G (hO.2.2.2.2.2.2.2.2.2.2.2.2.2.2.2.2.2.2.2.2.2.1) hin (by omega) (by omega) hr hw hl tail)
    by_cases h22 : w.toInt = 22
    · exact lv_tableIn (tgt := 933) hx hb dL_law_40 (by rw [h22]; decide) (by rw [h22]; decide) (by rw [h22]; rfl) (by decide) (lawc_22 G (hO.2.2.2.2.2.2.2.2.2.2.2.2.2.2.2.2.2.2.2.2.2.2.1) hin (by omega) (by omega) hr hw hl tail)
    by_cases h23 : w.toInt = 23
    · exact lv_tableIn (tgt := 946) hx hb dL_law_40 (by rw [h23]; decide) (by rw [h23]; decide) (by rw [h23]; rfl) (by decide) (lawc_23 G (hO.2.2.2.2.2.2.2.2.2.2.2.2.2.2.2.2.2.2.2.2.2.2.2.1) hin (by omega) (by omega) hr hw hl tail)
    by_cases h24 : w.toInt = 24
    · exact lv_tableIn (tgt := 983) hx hb dL_law_40 (by rw [h24]; decide) (by rw [h24]; decide) (by rw [h24]; rfl) (by decide) (lawc_24 G (hO.2.2.2.2.2.2.2.2.2.2.2.2.2.2.2.2.2.2.2.2.2.2.2.2.1) hin (by omega) (by omega) hr hw hl tail)
    by_cases h25 : w.toInt = 25
    · exact lv_tableIn (tgt := 1008) hx hb dL_law_40 (by rw [h25]; decide) (by rw [h25]; decide) (by rw [h25]; rfl) (by decide) (lawc_25 G (hO.2.2.2.2.2.2.2.2.2.2.2.2.2.2.2.2.2.2.2.2.2.2.2.2.2.1) hin (by omega) (by omega) hr hw hl tail)
    by_cases h26 : w.toInt = 26
    · exact lv_tableIn (tgt := 1033) hx hb dL_law_40 (by rw [h26]; decide) (by rw [h26]; decide) (by rw [h26]; rfl) (by decide) (lawc_26 G (hO.2.2.2.2.2.2.2.2.2.2.2.2.2.2.2.2.2.2.2.2.2.2.2.2.2.2.1) hin (by omega) (by omega) hr hw hl tail)
    by_cases h27 : w.toInt = 27
    · exact lv_tableIn (tgt := 1058) hx hb dL_law_40 (by rw [h27]; decide) (by rw [h27]; decide) (by rw [h27]; rfl) (by decide) (lawc_27 G (hO.2.2.2.2.2.2.2.2.2.2.2.2.2.2.2.2.2.2.2.2.2.2.2.2.2.2.2.1) hin (by omega) (by omega) hr hw hl tail)
    by_cases h28 : w.toInt = 28
    · exact lv_tableIn (tgt := 1071) hx hb dL_law_40 (by rw [h28]; decide) (by rw [h28]; decide) (by rw [h28]; rfl) (by decide) (lawc_28 G (hO.2.2.2.2.2.2.2.2.2.2.2.2.2.2.2.2.2.2.2.2.2.2.2.2.2.2.2.2.1) hin (by omega) (by omega) hr hw hl tail)
    by_cases h29 : w.toInt = 29
    · exact lv_tableIn (tgt := 1096) hx hb dL_law_40 (by rw [h29]; decide) (by rw [h29]; decide) (by rw [h29]; rfl) (by decide) (lawc_29 G (hO.2.2.2.2.2.2.2.2.2.2.2.2.2.2.2.2.2.2.2.2.2.2.2.2.2.2.2.2.2.1) hin (by omega) (by omega) hr hw hl tail)
    by_cases h30 : w.toInt = 30
    · exact lv_tableIn (tgt := 1109) hx hb dL_law_40 (by rw [h30]; decide) (by rw [h30]; decide) (by rw [h30]; rfl) (by decide) (lawc_30 G (hO.2.2.2.2.2.2.2.2.2.2.2.2.2.2.2.2.2.2.2.2.2.2.2.2.2.2.2.2.2.2.1) hin (by omega) (by omega) hr hw hl tail)
    by_cases h31 : w.toInt = 31
    · exact lv_tableIn (tgt := 1158) hx hb dL_law_40 (by rw [h31]; decide) (by rw [h31]; decide) (by rw [h31]; rfl) (by decide) (lawc_31 G (hO.2.2.2.2.2.2.2.2.2.2.2.2.2.2.2.2.2.2.2.2.2.2.2.2.2.2.2.2.2.2.2.1) hin (by omega) (by omega) hr hw hl tail)
    by_cases h32 : w.toInt = 32
    · exact lv_tableIn (tgt := 1171) hx hb dL_law_40 (by rw [h32]; decide) (by rw [h32]; decide) (by rw [h32]; rfl) (by decide) (lawc_32 G (hO.2.2.2.2.2.2.2.2.2.2.2.2.2.2.2.2.2.2.2.2.2.2.2.2.2.2.2.2.2.2.2.2.1) hin (by omega) (by omega) hr hw hl tail)
    by_cases h33 : w.toInt = 33
    · exact lv_tableIn (tgt := 1196) hx hb dL_law_40 (by rw [h33]; decide) (by rw [h33]; decide) (by rw [h33]; rfl) (by decide) (lawc_33 G (hO.2.2.2.2.2.2.2.2.2.2.2.2.2.2.2.2.2.2.2.2.2.2.2.2.2.2.2.2.2.2.2.2.2.1) hin (by omega) (by omega) hr hw hl tail)
    by_cases h34 : w.toInt = 34
    · exact lv_tableIn (tgt := 1221) hx hb dL_law_40 (by rw [h34]; decide) (by rw [h34]; decide) (by rw [h34]; rfl) (by decide) (lawc_34 G (hO.2.2.2.2.2.2.2.2.2.2.2.2.2.2.2.2.2.2.2.2.2.2.2.2.2.2.2.2.2.2.2.2.2.2.1) hin (by omega) (by omega) hr hw hl tail)
    by_cases h35 : w.toInt = 35
    · exact lv_tableIn (tgt := 1258) hx hb dL_law_40 (by rw [h35]; decide) (by rw [h35]; decide) (by rw [h35]; rfl) (by decide) (lawc_35 G (hO.2.2.2.2.2.2.2.2.2.2.2.2.2.2.2.2.2.2.2.2.2.2.2.2.2.2.2.2.2.2.2.2.2.2.2.1) hin (by omega) (by omega) hr hw hl tail)
    by_cases h36 : w.toInt = 36
    · exact lv_tableIn (tgt := 1307) hx hb dL_law_40 (by rw [h36]; decide) (by rw [h36]; decide) (by rw [h36]; rfl) (by decide) (lawc_36 G (hO.2.2.2.2.2.2.2.2.2.2.2.2.2.2.2.2.2.2.2.2.2.2.2.2.2.2.2.2.2.2.2.2.2.2.2.2.1) hin (by omega) (by omega) hr hw hl tail)
    by_cases h37 : w.toInt = 37
    · exact lv_tableIn (tgt := 1344) hx hb dL_law_40 (by rw [h37]; decide) (by rw [h37]; decide) (by rw [h37]; rfl) (by decide) (lawc_37 G (hO.2.2.2.2.2.2.2.2.2.2.2.2.2.2.2.2.2.2.2.2.2.2.2.2.2.2.2.2.2.2.2.2.2.2.2.2.2.1) hin (by omega) (by omega) hr hw hl tail)
    by_cases h38 : w.toInt = 38
    · exact lv_tableIn (tgt := 1369) hx hb dL_law_40 (by rw [h38]; decide) (by rw [h38]; decide) (by rw [h38]; rfl) (by decide) (lawc_38 G (hO.2.2.2.2.2.2.2.2.2.2.2.2.2.2.2.2.2.2.2.2.2.2.2.2.2.2.2.2.2.2.2.2.2.2.2.2.2.2.1) hin (by omega) (by omega) hr hw hl tail)
    by_cases h39 : w.toInt = 39
    · exact lv_tableIn (tgt := 1394) hx hb dL_law_40 (by rw [h39]; decide) (by rw [h39]; decide) (by rw [h39]; rfl) (by decide) (lawc_39 G (hO.2.2.2.2.2.2.2.2.2.2.2.2.2.2.2.2.2.2.2.2.2.2.2.2.2.2.2.2.2.2.2.2.2.2.2.2.2.2.2.1) hin (by omega) (by omega) hr hw hl tail)
    by_cases h40 : w.toInt = 40
    · exact lv_tableIn (tgt := 1407) hx hb dL_law_40 (by rw [h40]; decide) (by rw [h40]; decide) (by rw [h40]; rfl) (by decide) (lawc_40 G (hO.2.2.2.2.2.2.2.2.2.2.2.2.2.2.2.2.2.2.2.2.2.2.2.2.2.2.2.2.2.2.2.2.2.2.2.2.2.2.2.2.1) hin (by omega) (by omega) hr hw hl tail)
    by_cases h41 : w.toInt = 41
    · exact lv_tableIn (tgt := 1420) hx hb dL_law_40 (by rw [h41]; decide) (by rw [h41]; decide) (by rw [h41]; rfl) (by decide) (lawc_41 G (hO.2.2.2.2.2.2.2.2.2.2.2.2.2.2.2.2.2.2.2.2.2.2.2.2.2.2.2.2.2.2.2.2.2.2.2.2.2.2.2.2.2.1) hin (by omega) (by omega) hr hw hl tail)
    refine lv_tableOut (tgt := 1445) hx hb dL_law_40 (by omega) (by decide) ?_
    refine W.widen (k := cells + 1) (n := slots + 6) (by omega) (by omega) ?_
    exact tail Sc Sm fo H locs ls (hO.2.2.2.2.2.2.2.2.2.2.2.2.2.2.2.2.2.2.2.2.2.2.2.2.2.2.2.2.2.2.2.2.2.2.2.2.2.2.2.2.2.2 Sc Sm hr) hw hl
