/-! names as numbers -/
def wdI (f : Int → Int) : Nat → Int
  | 0 => 0
  | d + 1 => 27 * wdI f d + f d - 96
def wdB : Nat → Int
  | 0 => 1
  | d + 1 => 27 * wdB d
theorem wdB_le : ∀ d : Nat, d ≤ 7 → 1 ≤ wdB d ∧ wdB d ≤ 10460353203
  | 0, _ => by decide
  | 1, _ => by decide
  | 2, _ => by decide
  | 3, _ => by decide
  | 4, _ => by decide
  | 5, _ => by decide
  | 6, _ => by decide
  | 7, _ => by decide
  | d + 8, h => by omega
theorem wdI_in {f : Int → Int} : ∀ d : Nat, (∀ j : Int, 0 ≤ j → j < d → 97 ≤ f j ∧ f j ≤ 122) → 0 ≤ wdI f d ∧ wdI f d < wdB d
  | 0, _ => ⟨Int.le_refl 0, by show (0 : Int) < 1; decide⟩
  | d + 1, h => by
    have ih := wdI_in d (fun j a b => h j a (by omega))
    have q := h d (by omega) (by omega)
    show 0 ≤ 27 * wdI f d + f d - 96 ∧ 27 * wdI f d + f d - 96 < 27 * wdB d
    omega
theorem wdV_I {f : Int → Int} : ∀ d : Nat, d ≤ 7 → (∀ j : Int, 0 ≤ j → j < d → 97 ≤ f j ∧ f j ≤ 122) → (wdV f d).toInt = wdI f d
  | 0, _, _ => rfl
  | d + 1, hd, h => by
    have ih := wdV_I d (by omega) (fun j a b => h j a (by omega))
    have w := wdI_in d (fun j a b => h j a (by omega))
    have b := wdB_le d (by omega)
    have q := h d (by omega) (by omega)
    have e27 : (27 : Int64).toInt = 27 := rfl
    have e97 : (97 : Int64).toInt = 97 := rfl
    have e1 : (1 : Int64).toInt = 1 := rfl
    have ef : ((iz (f d)).toInt64).toInt = f d := by rw [Int32.toInt_toInt64, iz_in ⟨by omega, by omega⟩]
    have a1 : ((27 : Int64) * wdV f d).toInt = 27 * wdI f d := by
      rw [Int64.toInt_mul, e27, ih]; exact bmod64 (by omega) (by omega)
    have a2 : ((27 : Int64) * wdV f d + (iz (f d)).toInt64).toInt = 27 * wdI f d + f d := by
      rw [Int64.toInt_add, a1, ef]; exact bmod64 (by omega) (by omega)
    have a3 : ((27 : Int64) * wdV f d + (iz (f d)).toInt64 - (97 : Int64)).toInt = 27 * wdI f d + f d - 97 := by
      rw [Int64.toInt_sub, a2, e97]; exact bmod64 (by omega) (by omega)
    show ((27 : Int64) * wdV f d + (iz (f d)).toInt64 - (97 : Int64) + (1 : Int64)).toInt = 27 * wdI f d + f d - 96
    rw [Int64.toInt_add, a3, e1]
    rw [bmod64 (by omega) (by omega)]; omega
theorem tdiv_pos {a b : Int} (h : 0 ≤ a) : a.tdiv b = a / b := Int.tdiv_eq_ediv_of_nonneg h
theorem wdV_div {f : Int → Int} {d : Nat} (hd : d + 1 ≤ 7) (h : ∀ j : Int, 0 ≤ j → j < (d + 1 : Nat) → 97 ≤ f j ∧ f j ≤ 122) : wdV f (d + 1) / (27 : Int64) = wdV f d := by
  have e := wdV_I (d + 1) hd h
  have e0 := wdV_I d (by omega) (fun j a b => h j a (by omega))
  have w := wdI_in (d + 1) h
  have w0 := wdI_in d (fun j a b => h j a (by omega))
  have b := wdB_le (d + 1) hd
  have q := h d (by omega) (by omega)
  have e27 : (27 : Int64).toInt = 27 := rfl
  have ew : wdI f (d + 1) = 27 * wdI f d + f d - 96 := rfl
  apply Int64.toInt_inj.mp
  rw [Int64.toInt_div, e, e27, tdiv_pos w.1, e0, bmod64 (by omega) (by omega)]
  omega
theorem wdV_last {f : Int → Int} {d : Nat} (hd : d + 1 ≤ 7) (h : ∀ j : Int, 0 ≤ j → j < (d + 1 : Nat) → 97 ≤ f j ∧ f j ≤ 122) : 97 + bz ((wdV f (d + 1) - (1 : Int64)) - (wdV f (d + 1) - (1 : Int64)) / (27 : Int64) * (27 : Int64)).toInt32 = f d := by
  have e := wdV_I (d + 1) hd h
  have w0 := wdI_in d (fun j a b => h j a (by omega))
  have b := wdB_le d (by omega)
  have q := h d (by omega) (by omega)
  have e27 : (27 : Int64).toInt = 27 := rfl
  have e1 : (1 : Int64).toInt = 1 := rfl
  have ew : wdI f (d + 1) = 27 * wdI f d + f d - 96 := rfl
  have a1 : (wdV f (d + 1) - (1 : Int64)).toInt = 27 * wdI f d + f d - 97 := by
    rw [Int64.toInt_sub, e, e1, bmod64 (by omega) (by omega)]; omega
  have a2 : ((wdV f (d + 1) - (1 : Int64)) / (27 : Int64)).toInt = wdI f d := by
    rw [Int64.toInt_div, a1, e27, tdiv_pos (by omega), bmod64 (by omega) (by omega)]; omega
  have a3 : ((wdV f (d + 1) - (1 : Int64)) / (27 : Int64) * (27 : Int64)).toInt = 27 * wdI f d := by
    rw [Int64.toInt_mul, a2, e27, bmod64 (by omega) (by omega)]; omega
  have a4 : ((wdV f (d + 1) - (1 : Int64)) - (wdV f (d + 1) - (1 : Int64)) / (27 : Int64) * (27 : Int64)).toInt = f d - 97 := by
    rw [Int64.toInt_sub, a1, a3, bmod64 (by omega) (by omega)]; omega
  unfold bz
  rw [Int64.toInt_toInt32, a4, fb_bmodZ (by omega) (by omega)]
  omega
/-- names of like number are alike -/
theorem wdI_inj {f g : Int → Int} : ∀ (d e : Nat), (∀ j : Int, 0 ≤ j → j < d → 97 ≤ f j ∧ f j ≤ 122) → (∀ j : Int, 0 ≤ j → j < e → 97 ≤ g j ∧ g j ≤ 122) → wdI f d = wdI g e → d = e ∧ ∀ j : Int, 0 ≤ j → j < d → f j = g j
  | 0, 0, _, _, _ => ⟨rfl, fun j a b => by omega⟩
  | 0, e + 1, _, hg, h => by
    have w := wdI_in e (fun j a b => hg j a (by omega))
    have q := hg e (by omega) (by omega)
    have h : (0 : Int) = 27 * wdI g e + g e - 96 := h
    omega
  | d + 1, 0, hf, _, h => by
    have w := wdI_in d (fun j a b => hf j a (by omega))
    have q := hf d (by omega) (by omega)
    have h : 27 * wdI f d + f d - 96 = (0 : Int) := h
    omega
  | d + 1, e + 1, hf, hg, h => by
    have q1 := hf d (by omega) (by omega)
    have q2 := hg e (by omega) (by omega)
    have h : 27 * wdI f d + f d - 96 = 27 * wdI g e + g e - 96 := h
    have hw : wdI f d = wdI g e := by omega
    obtain ⟨h1, h2⟩ := wdI_inj d e (fun j a b => hf j a (by omega)) (fun j a b => hg j a (by omega)) hw
    subst h1
    refine ⟨rfl, fun j a b => ?_⟩
    by_cases k : j = d
    · rw [k]; omega
    · exact h2 j a (by omega)
theorem wdV_congr {f g : Int → Int} : ∀ d : Nat, (∀ j : Int, 0 ≤ j → j < d → f j = g j) → wdV f d = wdV g d
  | 0, _ => rfl
  | d + 1, h => by
    rw [wdV, wdV, wdV_congr d (fun j a b => h j a (by omega)), h d (by omega) (by omega)]
