/-! feed, end -/
def byQ (w q : Int) : Int := bz (iz (bz (iz w >>> (iz (24 - (8 * q)) &&& 31))) &&& iz 255)
theorem and255_in (X : Int32) : 0 ≤ bz (X &&& iz 255) ∧ bz (X &&& iz 255) ≤ 255 := by
  have e : (X &&& iz 255).toBitVec.toNat ≤ 255 := by
    rw [Int32.toBitVec_and, BitVec.toNat_and]
    exact Nat.and_le_right
  have e2 : bz (X &&& iz 255) = ((X &&& iz 255).toBitVec.toNat : Int) := by
    unfold bz
    rw [← Int32.toInt_toBitVec, BitVec.toInt_eq_toNat_of_lt (by omega)]
  rw [e2]; omega
theorem byQ_in (w q : Int) : 0 ≤ byQ w q ∧ byQ w q ≤ 255 := and255_in _
theorem bits255 : ∀ i : Nat, i < 32 → 8 ≤ i → (255#32).getLsbD i = false := by decide
theorem shr_eq (X : BitVec 32) (s : Nat) (hs : s ≤ 24) : (X >>> s) &&& 255#32 = (X.sshiftRight s) &&& 255#32 := by
  apply BitVec.eq_of_getLsbD_eq
  intro i hi
  rw [BitVec.getLsbD_and, BitVec.getLsbD_and]
  by_cases g : 8 ≤ i
  · rw [bits255 i hi g, Bool.and_false, Bool.and_false]
  · rw [BitVec.getLsbD_ushiftRight, BitVec.getLsbD_sshiftRight]
    have h1 : (decide (32 ≤ i)) = false := decide_eq_false (by omega)
    have h2 : s + i < 32 := by omega
    simp only [h1, h2, if_true, Bool.not_false, Bool.true_and]
/-- the class's byte -/
theorem byC (w : Int) {q x : Int} (hq : (q = 0 ∧ x = 24) ∨ (q = 1 ∧ x = 16) ∨ (q = 2 ∧ x = 8) ∨ (q = 3 ∧ x = 0)) : bz (iz (bz ((iz w).toUInt32 >>> ((iz x).toUInt32 &&& Int32.toUInt32 31)).toInt32) &&& iz 255) = byQ w q := by
  unfold byQ
  rw [iz_bz, iz_bz]
  have key : ∀ (s : Nat) (u : UInt32) (v : Int32), s ≤ 24 → u.toBitVec = BitVec.ofNat 32 s → v.toBitVec = BitVec.ofNat 32 s → (BitVec.ofNat 32 s % 32).toNat = s → ((BitVec.ofNat 32 s).smod 32).toNat = s → ((iz w).toUInt32 >>> u).toInt32 &&& iz 255 = (iz w >>> v) &&& iz 255 := fun s u v hs hu hv e1 e2 => by
    apply Int32.toBitVec_inj.mp
    rw [Int32.toBitVec_and, Int32.toBitVec_and, Int32.toBitVec_shiftRight, UInt32.toBitVec_toInt32, UInt32.toBitVec_shiftRight, Int32.toBitVec_toUInt32, hu, hv]
    show ((iz w).toBitVec >>> (BitVec.ofNat 32 s % 32)) &&& 255#32 = ((iz w).toBitVec.sshiftRight' ((BitVec.ofNat 32 s).smod 32)) &&& 255#32
    rw [BitVec.ushiftRight_eq', e1, BitVec.sshiftRight_eq', e2]
    exact shr_eq _ s hs
  rcases hq with ⟨rfl, rfl⟩ | ⟨rfl, rfl⟩ | ⟨rfl, rfl⟩ | ⟨rfl, rfl⟩
  · rw [key 24 _ (iz (24 - 8 * 0) &&& 31) (by decide) (by decide) (by decide) (by decide) (by decide)]
  · rw [key 16 _ (iz (24 - 8 * 1) &&& 31) (by decide) (by decide) (by decide) (by decide) (by decide)]
  · rw [key 8 _ (iz (24 - 8 * 2) &&& 31) (by decide) (by decide) (by decide) (by decide) (by decide)]
  · rw [key 0 _ (iz (24 - 8 * 3) &&& 31) (by decide) (by decide) (by decide) (by decide) (by decide)]
/-- a byte, stored as a char -/
theorem chr_of {b : Int} (h : 0 ≤ b ∧ b ≤ 255) : bz ((iz b).toUInt32 % 65536).toInt32 = b := by
  have e1 : (iz b).toUInt32.toBitVec.toNat = b.toNat := by
    have h1 : (iz b).toInt = b := iz_in ⟨by omega, by omega⟩
    have h2 : (iz b).toBitVec.toInt = b := h1
    have h3 := BitVec.toInt_eq_toNat_cond (x := (iz b).toBitVec)
    show (iz b).toBitVec.toNat = b.toNat
    have h4 := (iz b).toBitVec.isLt
    by_cases g : 2 * (iz b).toBitVec.toNat < 2 ^ 32
    · rw [if_pos g] at h3; omega
    · rw [if_neg g] at h3; omega
  have e2 : ((iz b).toUInt32 % 65536).toBitVec.toNat = b.toNat := by
    show ((iz b).toUInt32.toBitVec % (65536 : UInt32).toBitVec).toNat = b.toNat
    rw [BitVec.toNat_umod, e1]
    have : (65536 : UInt32).toBitVec.toNat = 65536 := rfl
    rw [this]; omega
  unfold bz
  rw [← Int32.toInt_toBitVec, UInt32.toBitVec_toInt32, BitVec.toInt_eq_toNat_of_lt (by rw [e2]; omega), e2]
  omega
section FEED
variable {S Sc Sm : S2} {B w L : Int} {t b : Int → Int}
def gW (b : Int → Int) : Int → Int → Int := fun a k => if b k = 0 then a else a + 1
theorem gW_shift {b : Int → Int} : ∀ (d : Nat) (i a c : Int), fld (gW b) d i (a + c) = fld (gW b) d i a + c
  | 0, i, a, c => rfl
  | d + 1, i, a, c => by
    rw [fld, fld]
    show fld (gW b) d (i + 1) (if b i = 0 then a + c else a + c + 1) = fld (gW b) d (i + 1) (if b i = 0 then a else a + 1) + c
    by_cases g : b i = 0
    · rw [if_pos g, if_pos g]; exact gW_shift d (i + 1) a c
    · rw [if_neg g, if_neg g, show a + c + 1 = a + 1 + c by omega]; exact gW_shift d (i + 1) (a + 1) c
theorem gW_in {b : Int → Int} : ∀ (d : Nat) (i a : Int), a ≤ fld (gW b) d i a ∧ fld (gW b) d i a ≤ a + d
  | 0, i, a => ⟨Int.le_refl a, by show a ≤ a + 0; omega⟩
  | d + 1, i, a => by
    rw [fld]
    show a ≤ fld (gW b) d (i + 1) (if b i = 0 then a else a + 1) ∧ fld (gW b) d (i + 1) (if b i = 0 then a else a + 1) ≤ a + ((d + 1 : Nat) : Int)
    by_cases g : b i = 0
    · rw [if_pos g]; have := gW_in (b := b) d (i + 1) a; omega
    · rw [if_neg g]; have := gW_in (b := b) d (i + 1) (a + 1); omega
theorem bytesIn_loop {m : Int} (hb : ∀ q, 0 ≤ q → q < 4 → byQ w q = b (m + q)) : ∀ (d N : Nat) (q a : Int), 0 ≤ q → q + d = 4 → d < N → f_X10_bytesIn_5 N w a (24 - 8 * q) S = some (fld (gW b) d (m + q) a, S) := by
  intro d
  induction d with
  | zero =>
    intro N q a h0 hq hN
    obtain ⟨N, rfl⟩ : ∃ M, N = M + 1 := ⟨N - 1, by omega⟩
    rw [f_X10_bytesIn_5, cI_of (by omega) (by omega) (by omega) (by omega), if_pos (by omega)]
    rfl
  | succ d ih =>
    intro N q a h0 hq hN
    obtain ⟨N, rfl⟩ : ∃ M, N = M + 1 := ⟨N - 1, by omega⟩
    have e := hb q h0 (by omega)
    have r := byQ_in w q
    rw [f_X10_bytesIn_5, cI_of (by omega) (by omega) (by omega) (by omega), if_neg (by omega), byC w (q := q) (x := 24 - 8 * q) (by omega), cI_of (by omega) (by omega) (by omega) (by omega)]
    have n1 := ih N (q + 1) a (by omega) (by omega) (by omega)
    have n2 := ih N (q + 1) (a + 1) (by omega) (by omega) (by omega)
    rw [show m + (q + 1) = m + q + 1 by omega, show 24 - 8 * (q + 1) = 24 - 8 * q + (-8) by omega] at n1 n2
    rw [fld]
    show _ = some (fld (gW b) d (m + q + 1) (if b (m + q) = 0 then a else a + 1), S)
    by_cases g : b (m + q) = 0
    · rw [if_pos (by rw [e]; exact g), f_X10_bytesIn_22, if_pos g]; exact n1
    · rw [if_neg (by rw [e]; exact g), f_X10_bytesIn_22, if_neg g]; exact n2
/-- bytes behind a tape -/
def apS (b : Int → Int) : Int × (Int → Int) → Int → Int × (Int → Int) := fun x k => if b k = 0 then x else (x.1 + 1, upI x.2 x.1 (b k))
def TpC (S : S2) (x : Int × (Int → Int)) : Prop := S.1 2 1 = x.1 ∧ ∀ i, 0 ≤ i → i < x.1 → S.1 3 i = x.2 i
def TpM (S : S2) (x : Int × (Int → Int)) : Prop := S.1 0 2 = x.1 ∧ ∀ i, 0 ≤ i → i < x.1 → S.1 1 i = x.2 i
abbrev is23T : Nat → Prop := fun j => j = 2 ∨ j = 3
theorem addWord_loop {m : Int} (hb : ∀ q, 0 ≤ q → q < 4 → byQ w q = b (m + q)) : ∀ (d N : Nat) (q : Int) (S : S2) (x : Int × (Int → Int)), 0 ≤ q → q + d = 4 → d < N → 0 ≤ x.1 → x.1 + fld (gW b) d (m + q) 0 ≤ 400 → TpC S x → ∃ S', f_X9_addWord_3 2 N w (24 - 8 * q) S = some S' ∧ TpC S' (fld (apS b) d (m + q) x) ∧ Fr is23T S S' := by
  intro d
  induction d with
  | zero =>
    intro N q S x h0 hq hN x0 hx h
    obtain ⟨N, rfl⟩ : ∃ M, N = M + 1 := ⟨N - 1, by omega⟩
    refine ⟨S, ?_, h, Fr.refl⟩
    rw [f_X9_addWord_3, cI_of (by omega) (by omega) (by omega) (by omega), if_pos (by omega)]
    rfl
  | succ d ih =>
    intro N q S x h0 hq hN x0 hx h
    obtain ⟨N, rfl⟩ : ∃ M, N = M + 1 := ⟨N - 1, by omega⟩
    have e := hb q h0 (by omega)
    have r := byQ_in w q
    have ex := h.1
    rw [fld] at hx
    have hx : x.1 + fld (gW b) d (m + q + 1) (if b (m + q) = 0 then 0 else 0 + 1) ≤ 400 := hx
    rw [f_X9_addWord_3, cI_of (by omega) (by omega) (by omega) (by omega), if_neg (by omega), byC w (q := q) (x := 24 - 8 * q) (by omega), cI_of (by omega) (by omega) (by omega) (by omega)]
    rw [fld]
    by_cases g : b (m + q) = 0
    · rw [if_pos g] at hx
      obtain ⟨S', f1, f2, f3⟩ := ih N (q + 1) S x (by omega) (by omega) (by omega) x0 (by rw [show m + (q + 1) = m + q + 1 by omega]; exact hx) h
      rw [show m + (q + 1) = m + q + 1 by omega] at f2
      refine ⟨S', ?_, by rw [show apS b x (m + q) = x from if_pos g]; exact f2, f3⟩
      rw [if_pos (by rw [e]; exact g), f_X9_addWord_50, show 24 - 8 * q + (-8) = 24 - 8 * (q + 1) by omega]; exact f1
    · rw [if_neg g, gW_shift] at hx
      have hp := (gW_in (b := b) d (m + q + 1) 0).1
      have hA : apS b x (m + q) = (x.1 + 1, upI x.2 x.1 (b (m + q))) := if_neg g
      have fr : Fr is23T S (pI (pI S 3 x.1 (b (m + q))) 2 1 (x.1 + 1)) := (Fr.refl.pI (Or.inr rfl)).pI (Or.inl rfl)
      obtain ⟨S', f1, f2, f3⟩ := ih N (q + 1) (pI (pI S 3 x.1 (b (m + q))) 2 1 (x.1 + 1)) (x.1 + 1, upI x.2 x.1 (b (m + q))) (by omega) (by omega) (by omega) (by show 0 ≤ x.1 + 1; omega) (by rw [show m + (q + 1) = m + q + 1 by omega]; show x.1 + 1 + _ ≤ 400; omega) ⟨pI_eq, fun i u v => by
        have v : i < x.1 + 1 := v
        show (pI (pI S 3 x.1 (b (m + q))) 2 1 (x.1 + 1)).1 3 i = upI x.2 x.1 (b (m + q)) i
        rw [pI_cell (by decide)]
        by_cases k : i = x.1
        · rw [k, pI_eq, upI_eq]
        · rw [pI_idx k, upI_ne k]; exact h.2 i u (by omega)⟩
      rw [show m + (q + 1) = m + q + 1 by omega] at f2
      refine ⟨S', ?_, by rw [hA]; exact f2, fr.trans f3 (fun _ h => h) (fun _ h => h)⟩
      rw [if_neg (by rw [e]; exact g)]
      unfold gI uI
      dsimp only
      rw [ex, cI_of (by omega) (by omega) (by omega) (by omega), if_neg (by omega), chr_of r, e, sC_of x0 (by omega) (by omega) (by omega), pI_cell (by decide), ex, f_X9_addWord_50, show 24 - 8 * q + (-8) = 24 - 8 * (q + 1) by omega]
      exact f1
end FEED
