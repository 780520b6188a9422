/-! draws -/
theorem bmod64 {z : Int} (h1 : -9223372036854775808 ≤ z) (h2 : z < 9223372036854775808) : z.bmod (2 ^ 64) = z := Int.bmod_eq_of_le (by omega) (by omega)
def dwU (v : Int64) : Int64 := (v.toUInt64 >>> ((iz 33).toInt64.toUInt64 &&& Int64.toUInt64 63)).toInt64
theorem dwU_in (v : Int64) : 0 ≤ (dwU v).toInt ∧ (dwU v).toInt < 2147483648 := by
  have sh : ((iz 33).toInt64.toUInt64 &&& Int64.toUInt64 63) = (33 : UInt64) := by decide
  unfold dwU
  rw [sh]
  have hn : (v.toUInt64 >>> (33 : UInt64)).toNat < 2147483648 := by
    rw [UInt64.toNat_shiftRight]
    have h1 : v.toUInt64.toNat < 2 ^ 64 := v.toUInt64.toNat_lt
    have h2 : (33 : UInt64).toNat % 64 = 33 := by decide
    rw [h2, Nat.shiftRight_eq_div_pow]
    omega
  have e : ((v.toUInt64 >>> (33 : UInt64)).toInt64).toInt = ((v.toUInt64 >>> (33 : UInt64)).toNat : Int) := by
    rw [← Int64.toInt_toBitVec, UInt64.toBitVec_toInt64, BitVec.toInt_eq_toNat_of_lt]
    · rfl
    · have : (v.toUInt64 >>> (33 : UInt64)).toBitVec.toNat = (v.toUInt64 >>> (33 : UInt64)).toNat := rfl
      rw [this]; omega
  rw [e]; omega
def dwX (x : Int64) : Int64 := (x * (6364136223846793005 : Int64)) + (1442695040888963407 : Int64)
def dwV (v : Int64) (b : Int) : Int := bz ((dwU v - dwU v / ((iz b).toInt64) * ((iz b).toInt64)) : Int64).toInt32
theorem dwV_in (v : Int64) {b : Int} (h1 : 1 ≤ b) (h2 : b ≤ 1000) : 0 ≤ dwV v b ∧ dwV v b < b := by
  have hm : ((iz b).toInt64).toInt = b := by rw [Int32.toInt_toInt64, iz_in ⟨by omega, by omega⟩]
  obtain ⟨u1, u2⟩ := dwU_in v
  have hq0 : 0 ≤ (dwU v).toInt / b := Int.ediv_nonneg u1 (by omega)
  have hq1 : (dwU v).toInt / b ≤ (dwU v).toInt := Int.ediv_le_self _ u1
  have hr0 := Int.emod_nonneg (dwU v).toInt (show b ≠ 0 by omega)
  have hr1 := Int.emod_lt_of_pos (dwU v).toInt (show 0 < b by omega)
  have hqr := Int.ediv_mul_add_emod (dwU v).toInt b
  have e1 : (dwU v / ((iz b).toInt64)).toInt = (dwU v).toInt / b := by
    rw [Int64.toInt_div, hm, Int.tdiv_eq_ediv_of_nonneg u1]
    exact bmod64 (by omega) (by omega)
  have e2 : (dwU v / ((iz b).toInt64) * ((iz b).toInt64)).toInt = (dwU v).toInt / b * b := by
    rw [Int64.toInt_mul, e1, hm]
    exact bmod64 (by omega) (by omega)
  have e3 : (dwU v - dwU v / ((iz b).toInt64) * ((iz b).toInt64)).toInt = (dwU v).toInt % b := by
    rw [Int64.toInt_sub, e2, bmod64 (by omega) (by omega)]; omega
  unfold dwV bz
  rw [Int64.toInt_toInt32, e3, fb_bmodZ (by omega) (by omega)]
  exact ⟨hr0, hr1⟩
theorem nz_of {b : Int} (h1 : 1 ≤ b) (h2 : b ≤ 1000) : ¬ ((iz b).toInt64 = 0) := fun h => by
  have hm : ((iz b).toInt64).toInt = b := by rw [Int32.toInt_toInt64, iz_in ⟨by omega, by omega⟩]
  rw [h] at hm
  have : (0 : Int64).toInt = 0 := rfl
  omega
theorem nextC_of (N : Nat) {S : S2} {b : Int} (h1 : 1 ≤ b) (h2 : b ≤ 1000) : f_X1_next N S 79 b = some (dwV (dwX (S.2 79 0)) b, pL S 79 0 (dwX (S.2 79 0))) := by
  unfold f_X1_next gL uL nzL
  dsimp only
  rw [cI_of (by omega) (by omega) (by omega) (by omega), if_neg (by omega), if_neg (nz_of h1 h2), pL_eq]
  rfl
theorem draw_of (N : Nat) {S : S2} {b : Int} (h1 : 1 ≤ b) (h2 : b ≤ 1000) : f_X11_draw N S b = some (dwV (dwX (S.2 0 45)) b, pL S 0 45 (dwX (S.2 0 45))) := by
  unfold f_X11_draw gL uL nzL
  dsimp only
  rw [if_neg (nz_of h1 h2), pL_eq]
  rfl
/-! acts keep the relation -/
section RELACT
variable {Sc Sm : S2} {n z B : Int} {s : Int → Int}
theorem act_rel (N M : Nat) (H : RelB B Sc Sm) (cur : CurR Sc Sm n s z) (h1 : 1 ≤ n) (hB : B ≤ 100000) {so a b a' b' : Int} (hs : 0 ≤ so ∧ so ≤ 9) (hr : rfF n so a b = -1) (hE : StpE so a b a' b') (hN : 1000 ≤ N) (hM : 10000 ≤ M) : ∃ (v : Int) (Sc' Sm' : S2), f_X10_act N Sc so a b = some (v, Sc') ∧ f_X11_act M Sm so a' b' = some (v, Sm') ∧ RelB (B + 1) Sc' Sm' ∧ CurR Sc' Sm' (acN n so b) (acS n s z so a b) (acZ z so a) ∧ 1 ≤ acN n so b ∧ Fr actCA Sc Sc' ∧ FrM actMA actMF Sm Sm' := by
  obtain ⟨g1, g2, g3, -, ⟨nl, r, pl, g5⟩, g6, g7⟩ := H
  obtain ⟨v, Sc', Sm', e1, e2, e3, e4, e5, e6, e7⟩ := act_both N M cur h1 g5 g6 hB hs hr hE hN hM
  have qc : ∀ j, j ≤ 3 ∨ (20 ≤ j ∧ j ≤ 24) ∨ j = 26 ∨ (31 ≤ j ∧ j ≤ 81) → Sc'.1 j = Sc.1 j := fun j hj => e5.2 j (fun q => by have q : (4 ≤ j ∧ j ≤ 19) ∨ j = 25 ∨ (27 ≤ j ∧ j ≤ 30) ∨ (82 ≤ j ∧ j ≤ 161) := q; omega)
  have qm : ∀ j, j ≠ 0 → (j ≤ 7 ∨ (9 ≤ j ∧ j ≤ 12) ∨ 24 ≤ j) → Sm'.1 j = Sm.1 j := fun j h0 hj => e6.2.1 j h0 (fun q => by have q : j = 8 ∨ (13 ≤ j ∧ j ≤ 23) := q; omega)
  have qf : ∀ k : Int, (k = 2 ∨ k = 21 ∨ k = 27 ∨ k = 28 ∨ k = 47) → Sm'.1 0 k = Sm.1 0 k := fun k hk => e6.2.2 k (fun q => by have q : k = 35 ∨ k = 38 ∨ k = 41 ∨ k = 44 := q; omega)
  refine ⟨v, Sc', Sm', e1, e2, ⟨g1.keep (fun j hj => qc j (by omega)) (qm 1 (by decide) (by omega)) (qf 2 (by omega)), g2.keep (fun j x y => qc j (by omega)) (by rw [qc 0 (by omega)]) (fun k _ => by rw [qm 6 (by decide) (by omega)]) (fun k _ => by rw [qm 7 (by decide) (by omega)]) (qf 21 (by omega)), g3.keep (by rw [qc 0 (by omega)]) (by rw [qc 0 (by omega)]) (qm 9 (by decide) (by omega)) (qc 74 (by omega)), ⟨_, _, _, e3, fun _ => e7⟩, ⟨nl, r, pl, g5.keep (fun j hj => qc j (by omega)) (fun j hj => qm j (by omega) (by omega)) (by rw [e6.1]) (fun k hk => qf k (by omega))⟩, e4, (g7.keep (fun j hj => qc j (by omega)) (qm 24 (by decide) (by omega)) (qf 47 (by omega))).up (by omega)⟩, e3, e7, e5, e6⟩
theorem rf_cases {n so a b : Int} : rfF n so a b = 0 ∨ rfF n so a b = 1 ∨ rfF n so a b = -1 := by
  unfold rfF
  by_cases h1 : n = 0
  · rw [if_pos h1]; exact Or.inl rfl
  · rw [if_neg h1]
    by_cases h2 : (so = 7 ∨ so = 9) ∧ ¬ (0 ≤ a ∧ a < n)
    · rw [if_pos h2]; exact Or.inl rfl
    · rw [if_neg h2]
      by_cases h3 : bnI n so a b = 0
      · rw [if_pos h3]; exact Or.inr (Or.inl rfl)
      · rw [if_neg h3]; exact Or.inr (Or.inr rfl)
/-- a refusal counted on both sides -/
theorem ref_rel (H : RelB B Sc Sm) {k : Int} (hk : k = 0 ∨ k = 1) : RelB B (pI Sc 0 (9 + k) (Sc.1 0 (9 + k) + 1)) (pI Sm 9 k (Sm.1 9 k + 1)) := by
  obtain ⟨g1, g2, g3, ⟨n, z, s, g4, g4'⟩, ⟨nl, r, pl, g5⟩, g6, g7⟩ := H
  have qc : ∀ j, j ≠ 0 → (pI Sc 0 (9 + k) (Sc.1 0 (9 + k) + 1)).1 j = Sc.1 j := fun j hj => pI_row hj
  have qm : ∀ j, j ≠ 9 → (pI Sm 9 k (Sm.1 9 k + 1)).1 j = Sm.1 j := fun j hj => pI_row hj
  refine ⟨g1.keep (fun j hj => qc j (by omega)) (qm 1 (by decide)) (by rw [qm 0 (by decide)]), g2.keep (fun j x y => qc j (by omega)) (by rw [pI_idx (by omega)]) (fun _ _ => by rw [qm 6 (by decide)]) (fun _ _ => by rw [qm 7 (by decide)]) (by rw [qm 0 (by decide)]), ?_, ⟨n, z, s, g4.keep (fun j hj => qc j (by omega)) (fun _ _ => by rw [qm 8 (by decide)]) (by rw [qm 0 (by decide)]), by rw [qm 0 (by decide), qc 20 (by decide)]; exact g4'⟩, ⟨nl, r, pl, g5.keep (fun j hj => qc j (by omega)) (fun j hj => qm j (by omega)) rfl (fun _ _ => by rw [qm 0 (by decide)])⟩, g6.keep (fun j hj => qc j (by omega)) (fun _ _ _ => by rw [qm 8 (by decide)]) (qm 23 (by decide)) (by rw [qm 0 (by decide)]), g7.keep (fun j hj => qc j (by omega)) (qm 24 (by decide)) (by rw [qm 0 (by decide)])⟩
  obtain ⟨r1, r2, r3⟩ := g3
  have r3 : ChR (pI Sc 0 (9 + k) (Sc.1 0 (9 + k) + 1)) := by unfold ChR; rw [qc 74 (by decide)]; exact r3
  rcases hk with rfl | rfl
  · exact ⟨by rw [pI_eq, show (9 : Int) + 0 = 9 from rfl, pI_eq, r1], by rw [pI_idx (by decide), pI_idx (by decide)]; exact r2, r3⟩
  · exact ⟨by rw [pI_idx (by decide), pI_idx (by decide)]; exact r1, by rw [pI_eq, show (9 : Int) + 1 = 10 from rfl, pI_eq, r2], r3⟩
theorem ask_both (H : RelB B Sc Sm) (hB : B ≤ 100000) {so a b : Int} (hs : 0 ≤ so ∧ so ≤ 9) (ha : inR a) (hb : inR b) (h3 : so ≤ 3 → a = 0) : ∃ (N M : Nat) (v : Int) (Sc' Sm' : S2), f_X10_ask N Sc so a b = some (v, Sc') ∧ f_X11_hand M Sm so a b = some (v, Sm') ∧ RelB (B + 1) Sc' Sm' := by
  obtain ⟨-, -, g3, ⟨n, z, s, g4, g4'⟩, -⟩ := id H
  obtain ⟨⟨c0, c1⟩, c2, c3, c4, c5, c6, -⟩ := id g4
  have er := refusal_of 1000 c4 c0 c1 (sort := so) (a := a) (b := b) (by omega) (by omega) ha.1 ha.2 hb.1 hb.2
  have ew : f_X11_whyNot 10000 Sm so a b = some (rfF n so a b, Sm) := by
    by_cases hn : n = 0
    · rw [if_pos hn] at c6
      have : rfF n so a b = 0 := by unfold rfF; rw [if_pos hn]
      rw [this]
      exact whyNot_0 10000 c6
    · rw [if_neg hn] at c6
      exact whyNot_of 10000 c5 c6 (by omega) c1 (by omega) (by omega) ha.1 ha.2 hb.1 hb.2
  rcases rf_cases (n := n) (so := so) (a := a) (b := b) with h | h | h
  · rw [h] at er ew
    refine ⟨1000, 10000, -1, _, _, ?_, ?_, (ref_rel H (k := 0) (Or.inl rfl)).up (by omega)⟩
    · unfold f_X10_ask
      simp (disch := omega) only [er, f_X10_ask_27, f_X10_ask_43, gI, uI, cI_of, aI_of, sI_of, mnI_of, mxI_of, abI_of, dvI_of, rmI_of, bI_of, bV_of, rI, rV, rL, rP, rT, rZ_of, rC_of, if_pos, if_neg, if_true, if_false]
      rfl
    · unfold f_X11_hand
      simp (disch := omega) only [ew, gI, uI, cI_of, aI_of, sI_of, mnI_of, mxI_of, abI_of, dvI_of, rmI_of, bI_of, bV_of, rI, rV, rL, rP, rT, rZ_of, rC_of, if_pos, if_neg, if_true, if_false]
  · rw [h] at er ew
    refine ⟨1000, 10000, -1, _, _, ?_, ?_, (ref_rel H (k := 1) (Or.inr rfl)).up (by omega)⟩
    · unfold f_X10_ask
      simp (disch := omega) only [er, f_X10_ask_27, f_X10_ask_43, gI, uI, cI_of, aI_of, sI_of, mnI_of, mxI_of, abI_of, dvI_of, rmI_of, bI_of, bV_of, rI, rV, rL, rP, rT, rZ_of, rC_of, if_pos, if_neg, if_true, if_false]
      rfl
    · unfold f_X11_hand
      simp (disch := omega) only [ew, gI, uI, cI_of, aI_of, sI_of, mnI_of, mxI_of, abI_of, dvI_of, rmI_of, bI_of, bV_of, rI, rV, rL, rP, rT, rZ_of, rC_of, if_pos, if_neg, if_true, if_false]
  · have n1 : 1 ≤ n := by
      have := (rf_ok h).1; omega
    obtain ⟨v, Sc', Sm', e1, e2, e3, -⟩ := act_rel 1000 10000 H g4 n1 hB hs h (a' := a) (b' := b) ⟨h3, fun _ => rfl, fun _ => rfl⟩ (by omega) (by omega)
    rw [h] at er ew
    refine ⟨1000, 10000, v, Sc', Sm', ?_, ?_, e3⟩
    · unfold f_X10_ask
      simp (disch := omega) only [er, f_X10_ask_27, f_X10_ask_43, e1, gI, uI, cI_of, aI_of, sI_of, mnI_of, mxI_of, abI_of, dvI_of, rmI_of, bI_of, bV_of, rI, rV, rL, rP, rT, rZ_of, rC_of, if_pos, if_neg, if_true, if_false]
    · unfold f_X11_hand
      simp (disch := omega) only [ew, e2, gI, uI, cI_of, aI_of, sI_of, mnI_of, mxI_of, abI_of, dvI_of, rmI_of, bI_of, bV_of, rI, rV, rL, rP, rT, rZ_of, rC_of, if_pos, if_neg, if_true, if_false]
/-- the relation behind t calls -/
def Rel (t : Nat) : S2 → S2 → Prop := RelB (40 * t)
theorem op_smooth (hB : B ≤ 50000) : Op_smooth (RelB B) (RelB (B + 40)) := fun Sc Sm H => by
  obtain ⟨N, M, v, Sc', Sm', e1, e2, e3⟩ := ask_both H (by omega) (so := 0) (a := 0) (b := 0) (by omega) ⟨by decide, by decide⟩ ⟨by decide, by decide⟩ (fun _ => rfl)
  exact ⟨N, M, v, Sc', Sm', by unfold f_X10_smooth; rw [e1]; rfl, by unfold f_X11_smooth; rw [e2]; rfl, e3.up (by omega)⟩
theorem op_median (hB : B ≤ 50000) : Op_median (RelB B) (RelB (B + 40)) := fun Sc Sm H => by
  obtain ⟨N, M, v, Sc', Sm', e1, e2, e3⟩ := ask_both H (by omega) (so := 1) (a := 0) (b := 0) (by omega) ⟨by decide, by decide⟩ ⟨by decide, by decide⟩ (fun _ => rfl)
  exact ⟨N, M, v, Sc', Sm', by unfold f_X10_median; rw [e1]; rfl, by unfold f_X11_median; rw [e2]; rfl, e3.up (by omega)⟩
theorem op_flat (hB : B ≤ 50000) : Op_flat (RelB B) (RelB (B + 40)) := fun Sc Sm H => by
  obtain ⟨N, M, v, Sc', Sm', e1, e2, e3⟩ := ask_both H (by omega) (so := 2) (a := 0) (b := 0) (by omega) ⟨by decide, by decide⟩ ⟨by decide, by decide⟩ (fun _ => rfl)
  exact ⟨N, M, v, Sc', Sm', by unfold f_X10_flat; rw [e1]; rfl, by unfold f_X11_flat; rw [e2]; rfl, e3.up (by omega)⟩
theorem op_turn (hB : B ≤ 50000) : Op_turn (RelB B) (RelB (B + 40)) := fun Sc Sm H => by
  obtain ⟨N, M, v, Sc', Sm', e1, e2, e3⟩ := ask_both H (by omega) (so := 3) (a := 0) (b := 0) (by omega) ⟨by decide, by decide⟩ ⟨by decide, by decide⟩ (fun _ => rfl)
  exact ⟨N, M, v, Sc', Sm', by unfold f_X10_turn; rw [e1]; rfl, by unfold f_X11_turn; rw [e2]; rfl, e3.up (by omega)⟩
theorem op_clip (hB : B ≤ 50000) : Op_clip (RelB B) (RelB (B + 40)) := fun Sc Sm H a1 h1 => by
  obtain ⟨N, M, v, Sc', Sm', e1, e2, e3⟩ := ask_both H (by omega) (so := 4) (a := a1) (b := 0) (by omega) h1 ⟨by decide, by decide⟩ (fun h => by omega)
  exact ⟨N, M, v, Sc', Sm', by unfold f_X10_clip; rw [e1]; rfl, by unfold f_X11_clip; rw [e2]; rfl, e3.up (by omega)⟩
theorem op_lift (hB : B ≤ 50000) : Op_lift (RelB B) (RelB (B + 40)) := fun Sc Sm H a1 h1 => by
  obtain ⟨N, M, v, Sc', Sm', e1, e2, e3⟩ := ask_both H (by omega) (so := 5) (a := a1) (b := 0) (by omega) h1 ⟨by decide, by decide⟩ (fun h => by omega)
  exact ⟨N, M, v, Sc', Sm', by unfold f_X10_lift; rw [e1]; rfl, by unfold f_X11_lift; rw [e2]; rfl, e3.up (by omega)⟩
theorem op_scale (hB : B ≤ 50000) : Op_scale (RelB B) (RelB (B + 40)) := fun Sc Sm H a1 a2 h1 h2 => by
  obtain ⟨N, M, v, Sc', Sm', e1, e2, e3⟩ := ask_both H (by omega) (so := 6) (a := a1) (b := a2) (by omega) h1 h2 (fun h => by omega)
  exact ⟨N, M, v, Sc', Sm', by unfold f_X10_scale; rw [e1]; rfl, by unfold f_X11_scale; rw [e2]; rfl, e3.up (by omega)⟩
theorem op_set (hB : B ≤ 50000) : Op_set (RelB B) (RelB (B + 40)) := fun Sc Sm H a1 a2 h1 h2 => by
  obtain ⟨N, M, v, Sc', Sm', e1, e2, e3⟩ := ask_both H (by omega) (so := 7) (a := a1) (b := a2) (by omega) h1 h2 (fun h => by omega)
  exact ⟨N, M, v, Sc', Sm', by unfold f_X10_set; rw [e1]; rfl, by unfold f_X11_set; rw [e2]; rfl, e3.up (by omega)⟩
theorem op_noise (hB : B ≤ 50000) : Op_noise (RelB B) (RelB (B + 40)) := fun Sc Sm H a1 h1 => by
  obtain ⟨N, M, v, Sc', Sm', e1, e2, e3⟩ := ask_both H (by omega) (so := 8) (a := a1) (b := 0) (by omega) h1 ⟨by decide, by decide⟩ (fun h => by omega)
  exact ⟨N, M, v, Sc', Sm', by unfold f_X10_noise; rw [e1]; rfl, by unfold f_X11_noise; rw [e2]; rfl, e3.up (by omega)⟩
theorem op_cut (hB : B ≤ 50000) : Op_cut (RelB B) (RelB (B + 40)) := fun Sc Sm H a1 a2 h1 h2 => by
  obtain ⟨N, M, v, Sc', Sm', e1, e2, e3⟩ := ask_both H (by omega) (so := 9) (a := a1) (b := a2) (by omega) h1 h2 (fun h => by omega)
  exact ⟨N, M, v, Sc', Sm', by unfold f_X10_cut; rw [e1]; rfl, by unfold f_X11_cut; rw [e2]; rfl, e3.up (by omega)⟩
end RELACT
