/-! THE RELATION between the class's cells and the reference's, piece by piece -/
def TapeR (Sc Sm : S2) : Prop := (0 ≤ Sc.1 2 1 ∧ Sc.1 2 1 ≤ 400) ∧ Sm.1 0 2 = Sc.1 2 1 ∧ ∀ i, 0 ≤ i → i < Sc.1 2 1 → Sm.1 1 i = Sc.1 3 i ∧ 1 ≤ Sc.1 3 i ∧ Sc.1 3 i ≤ 255
def nbF (sort : Int) : Int := if sort ≤ 3 then 0 else if sort = 4 ∨ sort = 5 ∨ sort = 8 then 1 else 2
/-- a step: (sort, first, second) of the class, (sort, a, b) of the reference -/
def StpR (so f g so' a b : Int) : Prop := so' = so ∧ (0 ≤ so ∧ so ≤ 9) ∧ (1 ≤ nbF so → a = f ∧ -999 ≤ f ∧ f ≤ 999) ∧ (nbF so < 1 → f = 0 ∧ a = -1000000) ∧ (2 ≤ nbF so → b = g ∧ -999 ≤ g ∧ g ≤ 999) ∧ (nbF so < 2 → g = 0 ∧ b = -1000000)
/-- script j: cell c of the class; rows 6, 7 of the reference at j -/
def OneS (Sc Sm : S2) (c : Nat) (j : Int) : Prop := (1 ≤ Sc.1 c 0 ∧ Sc.1 c 0 ≤ 12) ∧ Sm.1 7 j = Sc.1 c 0 ∧ ∀ i, 0 ≤ i → i < Sc.1 c 0 → StpR (Sc.1 (c + 1) i) (Sc.1 (c + 2) i) (Sc.1 (c + 3) i) (Sm.1 6 (3 * (12 * j + i))) (Sm.1 6 (3 * (12 * j + i) + 1)) (Sm.1 6 (3 * (12 * j + i) + 2))
abbrev scC (j : Int) : Nat := 32 + 4 * j.toNat
def ScrR (Sc Sm : S2) : Prop := (0 ≤ Sc.1 0 8 ∧ Sc.1 0 8 ≤ 4) ∧ Sm.1 0 21 = Sc.1 0 8 ∧ ∀ j, 0 ≤ j → j < Sc.1 0 8 → OneS Sc Sm (scC j) j
def ChR (Sc : S2) : Prop := ∀ k, 0 ≤ k → k < 48 → 0 ≤ Sc.1 74 k ∧ Sc.1 74 k < 65536
/-- what was refused; the signs of the draft's names are signs -/
def RefR (Sc Sm : S2) : Prop := Sm.1 9 0 = Sc.1 0 9 ∧ Sm.1 9 1 = Sc.1 0 10 ∧ ChR Sc
def CurR (Sc Sm : S2) (n : Int) (s : Int → Int) (z : Int) : Prop := (0 ≤ n ∧ n ≤ 48) ∧ CvB n s ∧ (0 ≤ z ∧ z ≤ 999) ∧ CvC Sc 4 n s z ∧ CvM Sm 8 n s z ∧ Sm.1 0 29 = (if n = 0 then 0 else 1) ∧ (1 ≤ n → CP Sc 6 n s z) ∧ (n = 0 → Sc.1 6 0 = 0 ∧ Sc.1 6 1 = 0)
/-- a name as the reference keeps it -/
def wdV (f : Int → Int) : Nat → Int64
  | 0 => 0
  | d + 1 => ((((27 : Int64) * wdV f d) + ((iz (f d)).toInt64)) - (97 : Int64)) + (1 : Int64)
def NameR (Sc Sm : S2) (nl : Int) : Prop := ∀ i, 0 ≤ i → i < nl → Sm.1 11 i = Sc.1 22 i ∧ (1 ≤ Sc.1 22 i ∧ Sc.1 22 i ≤ 6) ∧ (∀ j, 0 ≤ j → j < Sc.1 22 i → 97 ≤ Sc.1 24 (6 * i + j) ∧ Sc.1 24 (6 * i + j) ≤ 122) ∧ Sm.2 12 i = wdV (fun j => Sc.1 24 (6 * i + j)) (Sc.1 22 i).toNat
def LineR (Sc Sm : S2) (nl r : Int) (pl : Int → Int) : Prop := LnB nl r pl ∧ LnC Sc nl r pl ∧ LnM Sm nl r pl ∧ NameR Sc Sm nl
def HistR (Sc Sm : S2) (h nx F : Int) (e : Int → Int → Int) : Prop := ∀ j, 0 ≤ j → j < h → ∃ n s z, (1 ≤ n ∧ n ≤ 48) ∧ CvB n s ∧ (0 ≤ z ∧ z ≤ 999) ∧ CvC Sc (rwC ((nx + 40 - h + j) % 40)) n s z ∧ CvG (fun k => Sm.1 23 (231 * j + k)) n s z ∧ LogG (fun k => Sm.1 23 (231 * j + k)) (F + j) e
/-- log and history: no more than B acts in the log -/
def LogR (Sc Sm : S2) (B : Int) : Prop := ∃ (h nx T : Int) (e : Int → Int → Int), (0 ≤ h ∧ h ≤ 40) ∧ (0 ≤ nx ∧ nx < 40) ∧ (h ≤ T ∧ T ≤ B) ∧ Sc.1 25 0 = h ∧ Sc.1 25 1 = nx ∧ Sm.1 0 44 = h ∧ RingC Sc 27 (T - h) T e ∧ LogG (Sm.1 8) T e ∧ HistR Sc Sm h nx (T - h) e
def ImgR (Sc Sm : S2) (B : Int) : Prop := (Sc.1 48 1 = 0 ∧ Sm.1 0 47 = 0) ∨ (Sm.1 0 47 = 1 ∧ ∃ (n z T : Int) (s : Int → Int) (e : Int → Int → Int), (1 ≤ n ∧ n ≤ 48) ∧ CvB n s ∧ (0 ≤ z ∧ z ≤ 999) ∧ CvC Sc 48 n s z ∧ CvG (Sm.1 24) n s z ∧ (0 ≤ T ∧ T ≤ B) ∧ RingC Sc 50 T T e ∧ LogG (Sm.1 24) T e)
def Cur (Sc Sm : S2) : Prop := ∃ (n z : Int) (s : Int → Int), CurR Sc Sm n s z
def Lns (Sc Sm : S2) : Prop := ∃ (nl r : Int) (pl : Int → Int), LineR Sc Sm nl r pl
def RelB (B : Int) (Sc Sm : S2) : Prop := TapeR Sc Sm ∧ ScrR Sc Sm ∧ RefR Sc Sm ∧ (∃ (n z : Int) (s : Int → Int), CurR Sc Sm n s z ∧ (Sm.1 0 47 = 1 ∨ 1 ≤ Sm.1 0 44 ∨ 1 ≤ Sc.1 20 0 → 1 ≤ n)) ∧ Lns Sc Sm ∧ LogR Sc Sm B ∧ ImgR Sc Sm B
/-! what keeps a piece -/
section KEEP
variable {Sc Sm Sc' Sm' : S2}
theorem TapeR.keep (h : TapeR Sc Sm) (c : ∀ j, (j = 2 ∨ j = 3) → Sc'.1 j = Sc.1 j) (m1 : Sm'.1 1 = Sm.1 1) (m0 : Sm'.1 0 2 = Sm.1 0 2) : TapeR Sc' Sm' := by
  unfold TapeR; rw [c 2 (by omega), c 3 (by omega), m1, m0]; exact h
theorem OneS.keep {c : Nat} {j : Int} (h : OneS Sc Sm c j) (hj : 0 ≤ j ∧ j < 4) (q : ∀ i, c ≤ i → i ≤ c + 3 → Sc'.1 i = Sc.1 i) (m6 : ∀ k, k < 144 → Sm'.1 6 k = Sm.1 6 k) (m7 : ∀ k, k < 4 → Sm'.1 7 k = Sm.1 7 k) : OneS Sc' Sm' c j := by
  obtain ⟨h1, h2, h3⟩ := h
  refine ⟨by rw [q _ (by omega) (by omega)]; exact h1, by rw [q _ (by omega) (by omega), m7 j (by omega)]; exact h2, fun i a b => ?_⟩
  rw [q c (by omega) (by omega)] at b
  rw [q _ (by omega) (by omega), q _ (by omega) (by omega), q _ (by omega) (by omega), m6 _ (by omega), m6 _ (by omega), m6 _ (by omega)]
  exact h3 i a b
theorem ScrR.keep (h : ScrR Sc Sm) (c : ∀ j, 32 ≤ j → j ≤ 47 → Sc'.1 j = Sc.1 j) (c0 : Sc'.1 0 8 = Sc.1 0 8) (m6 : ∀ k, k < 144 → Sm'.1 6 k = Sm.1 6 k) (m7 : ∀ k, k < 4 → Sm'.1 7 k = Sm.1 7 k) (m0 : Sm'.1 0 21 = Sm.1 0 21) : ScrR Sc' Sm' := by
  obtain ⟨h1, h2, h3⟩ := h
  refine ⟨by rw [c0]; exact h1, by rw [c0, m0]; exact h2, fun j a b => ?_⟩
  rw [c0] at b
  exact (h3 j a b).keep (by omega) (fun i x y => c i (by have : scC j = 32 + 4 * j.toNat := rfl; omega) (by have : scC j = 32 + 4 * j.toNat := rfl; omega)) m6 m7
theorem RefR.keep (h : RefR Sc Sm) (c9 : Sc'.1 0 9 = Sc.1 0 9) (c10 : Sc'.1 0 10 = Sc.1 0 10) (m9 : Sm'.1 9 = Sm.1 9) (c74 : Sc'.1 74 = Sc.1 74) : RefR Sc' Sm' := by
  unfold RefR ChR; rw [c9, c10, m9, c74]; exact h
theorem CurR.keep {n z : Int} {s : Int → Int} (h : CurR Sc Sm n s z) (c : ∀ j, (4 ≤ j ∧ j ≤ 18) → Sc'.1 j = Sc.1 j) (m8 : ∀ k, k < 50 → Sm'.1 8 k = Sm.1 8 k) (m0 : Sm'.1 0 29 = Sm.1 0 29) : CurR Sc' Sm' n s z := by
  obtain ⟨h1, h2, h3, ⟨a1, a2, a3⟩, ⟨b1, b2, b3⟩, h6, h7, h8⟩ := h
  refine ⟨h1, h2, h3, ⟨by rw [c 4 (by omega)]; exact a1, by rw [c 4 (by omega)]; exact a2, fun i x y => by rw [c (4 + 1) (by omega)]; exact a3 i x y⟩, ⟨by rw [m8 _ (by omega)]; exact b1, by rw [m8 _ (by omega)]; exact b2, fun i x y => by rw [m8 _ (by omega)]; exact b3 i x y⟩, by rw [m0]; exact h6, fun hn => ?_, fun hn => by rw [c 6 (by omega)]; exact h8 hn⟩
  obtain ⟨p1, p2, p3, p4⟩ := h7 hn
  refine ⟨by rw [c 6 (by omega)]; exact p1, by rw [c 6 (by omega)]; exact p2, fun q x y => ?_, fun k x y => ?_⟩
  · rw [c (6 + 5) (by omega), c (6 + 6) (by omega), c (6 + 7) (by omega), c (6 + 8) (by omega), c (6 + 9) (by omega), c (6 + 10) (by omega)]; exact p3 q x y
  · rw [c (6 + 11) (by omega), c (6 + 12) (by omega)]; exact p4 k x y
theorem LineR.keep {nl r : Int} {pl : Int → Int} (h : LineR Sc Sm nl r pl) (c : ∀ j, (j = 20 ∨ j = 21 ∨ j = 22 ∨ j = 24) → Sc'.1 j = Sc.1 j) (m : ∀ j, (j = 10 ∨ j = 11) → Sm'.1 j = Sm.1 j) (m12 : Sm'.2 12 = Sm.2 12) (m0 : ∀ k : Int, (k = 27 ∨ k = 28) → Sm'.1 0 k = Sm.1 0 k) : LineR Sc' Sm' nl r pl := by
  obtain ⟨h1, ⟨a1, a2, a3⟩, ⟨b1, b2, b3⟩, h4⟩ := h
  refine ⟨h1, ⟨by rw [c 20 (by omega)]; exact a1, by rw [c 20 (by omega)]; exact a2, fun i x y => by rw [c 21 (by omega)]; exact a3 i x y⟩, ⟨by rw [m0 _ (by omega)]; exact b1, by rw [m0 _ (by omega)]; exact b2, fun i x y => by rw [m 10 (by omega)]; exact b3 i x y⟩, fun i x y => ?_⟩
  rw [c 22 (by omega), c 24 (by omega), m 11 (by omega), m12]
  exact h4 i x y
theorem HistR.keep {h nx F : Int} {e : Int → Int → Int} (H : HistR Sc Sm h nx F e) (hx : 0 ≤ nx ∧ nx < 40) (c : ∀ j, (82 ≤ j ∧ j ≤ 161) → Sc'.1 j = Sc.1 j) (m23 : Sm'.1 23 = Sm.1 23) : HistR Sc' Sm' h nx F e := fun j a b => by
  obtain ⟨n, s, z, h1, h2, h3, ⟨a1, a2, a3⟩, h5, h6⟩ := H j a b
  have hr : rwC ((nx + 40 - h + j) % 40) = 82 + 2 * ((nx + 40 - h + j) % 40).toNat := rfl
  refine ⟨n, s, z, h1, h2, h3, ⟨by rw [c _ (by omega)]; exact a1, by rw [c _ (by omega)]; exact a2, fun i x y => by rw [c _ (by omega)]; exact a3 i x y⟩, ?_, ?_⟩
  · rw [m23]; exact h5
  · rw [m23]; exact h6
theorem LogR.keep {B : Int} (H : LogR Sc Sm B) (c : ∀ j, (j = 25 ∨ (27 ≤ j ∧ j ≤ 30) ∨ (82 ≤ j ∧ j ≤ 161)) → Sc'.1 j = Sc.1 j) (m8 : ∀ k, 50 ≤ k → k < 231 → Sm'.1 8 k = Sm.1 8 k) (m23 : Sm'.1 23 = Sm.1 23) (m0 : Sm'.1 0 44 = Sm.1 0 44) : LogR Sc' Sm' B := by
  obtain ⟨h, nx, T, e, h1, h2, h3, h4, h5, h6, h7, h8, h9⟩ := H
  refine ⟨h, nx, T, e, h1, h2, h3, by rw [c 25 (by omega)]; exact h4, by rw [c 25 (by omega)]; exact h5, by rw [m0]; exact h6, h7.rows (fun j a b => c j (by omega)), h8.congr (fun k x y => m8 k x y), h9.keep h2 (fun j hj => c j (by omega)) m23⟩
theorem ImgR.keep {B : Int} (H : ImgR Sc Sm B) (c : ∀ j, (48 ≤ j ∧ j ≤ 53) → Sc'.1 j = Sc.1 j) (m24 : Sm'.1 24 = Sm.1 24) (m0 : Sm'.1 0 47 = Sm.1 0 47) : ImgR Sc' Sm' B := by
  rcases H with ⟨h1, h2⟩ | ⟨h1, n, z, T, s, e, g1, g2, g3, ⟨a1, a2, a3⟩, g5, g6, g7, g8⟩
  · exact Or.inl ⟨by rw [c 48 (by omega)]; exact h1, by rw [m0]; exact h2⟩
  · refine Or.inr ⟨by rw [m0]; exact h1, n, z, T, s, e, g1, g2, g3, ⟨by rw [c 48 (by omega)]; exact a1, by rw [c 48 (by omega)]; exact a2, fun i x y => by rw [c (48 + 1) (by omega)]; exact a3 i x y⟩, by rw [m24]; exact g5, g6, g7.rows (fun j a b => c j (by omega)), by rw [m24]; exact g8⟩
theorem LogR.up {B B' : Int} (H : LogR Sc Sm B) (hB : B ≤ B') : LogR Sc Sm B' := by
  obtain ⟨h, nx, T, e, h1, h2, h3, h4⟩ := H
  exact ⟨h, nx, T, e, h1, h2, ⟨h3.1, by omega⟩, h4⟩
theorem ImgR.up {B B' : Int} (H : ImgR Sc Sm B) (hB : B ≤ B') : ImgR Sc Sm B' := by
  rcases H with h | ⟨h1, n, z, T, s, e, g1, g2, g3, g4, g5, g6, g7⟩
  · exact Or.inl h
  · exact Or.inr ⟨h1, n, z, T, s, e, g1, g2, g3, g4, g5, ⟨g6.1, by omega⟩, g7⟩
theorem RelB.up {B B' : Int} (H : RelB B Sc Sm) (hB : B ≤ B') : RelB B' Sc Sm := by
  obtain ⟨h1, h2, h3, h4, h5, h6, h7⟩ := H
  exact ⟨h1, h2, h3, h4, h5, h6.up hB, h7.up hB⟩
/-- cells of passing use: the class's -/
abbrev passC : Nat → Prop := fun j => j = 1 ∨ j = 19 ∨ j = 23 ∨ (54 ≤ j ∧ j ≤ 73) ∨ (75 ≤ j ∧ j ≤ 81)
/-- the reference's: nothing else than what is of passing use -/
def KM (Sm Sm' : S2) : Prop := (∀ j, (j = 1 ∨ (8 ≤ j ∧ j ≤ 12) ∨ j = 23 ∨ j = 24) → Sm'.1 j = Sm.1 j) ∧ Sm'.2 12 = Sm.2 12 ∧ (∀ k, k < 144 → Sm'.1 6 k = Sm.1 6 k) ∧ (∀ k, k < 4 → Sm'.1 7 k = Sm.1 7 k) ∧ (∀ k : Int, (k = 2 ∨ k = 21 ∨ k = 27 ∨ k = 28 ∨ k = 29 ∨ k = 44 ∨ k = 47) → Sm'.1 0 k = Sm.1 0 k)
def KC (Sc Sc' : S2) : Prop := ∀ j, ¬ passC j → Sc'.1 j = Sc.1 j
theorem KC.refl : KC Sc Sc := fun _ _ => rfl
theorem KM.refl : KM Sm Sm := ⟨fun _ _ => rfl, rfl, fun _ _ => rfl, fun _ _ => rfl, fun _ _ => rfl⟩
theorem KC.trans {S'' : S2} (h : KC Sc Sc') (g : KC Sc' S'') : KC Sc S'' := fun j hj => (g j hj).trans (h j hj)
theorem KM.trans {S'' : S2} (h : KM Sm Sm') (g : KM Sm' S'') : KM Sm S'' := ⟨fun j hj => (g.1 j hj).trans (h.1 j hj), g.2.1.trans h.2.1, fun k hk => (g.2.2.1 k hk).trans (h.2.2.1 k hk), fun k hk => (g.2.2.2.1 k hk).trans (h.2.2.2.1 k hk), fun k hk => (g.2.2.2.2 k hk).trans (h.2.2.2.2 k hk)⟩
theorem KC.of {A : Nat → Prop} (h : Fr A Sc Sc') (hA : ∀ j, A j → passC j) : KC Sc Sc' := fun j hj => h.2 j (fun q => hj (hA j q))
theorem KM.of {A : Nat → Prop} {F : Int → Prop} (h : FrM A F Sm Sm') (hA : ∀ j, A j → (13 ≤ j ∧ j ≤ 22) ∨ (25 ≤ j ∧ j ≤ 27)) (hF : ∀ k, F k → k = 0 ∨ k = 35 ∨ k = 38 ∨ k = 41 ∨ k = 51) : KM Sm Sm' :=
  ⟨fun j hj => h.2.1 j (by omega) (fun q => by have := hA j q; omega), by rw [h.1], fun k _ => by rw [h.2.1 6 (by decide) (fun q => by have := hA 6 q; omega)], fun k _ => by rw [h.2.1 7 (by decide) (fun q => by have := hA 7 q; omega)], fun k hk => h.2.2 k (fun q => by have := hF k q; omega)⟩
theorem RelB.keep {B : Int} (H : RelB B Sc Sm) (c : KC Sc Sc') (m : KM Sm Sm') : RelB B Sc' Sm' := by
  obtain ⟨h1, h2, h3, ⟨n, z, s, h4, h4'⟩, ⟨nl, r, pl, h5⟩, h6, h7⟩ := H
  obtain ⟨m1, m2, m3, m4, m5⟩ := m
  have q : ∀ j, (2 ≤ j ∧ j ≤ 18) ∨ (20 ≤ j ∧ j ≤ 22) ∨ (24 ≤ j ∧ j ≤ 53) ∨ 82 ≤ j ∨ j = 74 ∨ j = 0 → Sc'.1 j = Sc.1 j := fun j hj => c j (fun z => by have z : j = 1 ∨ j = 19 ∨ j = 23 ∨ (54 ≤ j ∧ j ≤ 73) ∨ (75 ≤ j ∧ j ≤ 81) := z; omega)
  refine ⟨h1.keep (fun j hj => q j (by omega)) (m1 1 (by omega)) (m5 2 (by omega)), h2.keep (fun j a b => q j (by omega)) (by rw [q 0 (by omega)]) m3 m4 (m5 21 (by omega)), h3.keep (by rw [q 0 (by omega)]) (by rw [q 0 (by omega)]) (m1 9 (by omega)) (q 74 (by omega)), ⟨n, z, s, h4.keep (fun j hj => q j (by omega)) (fun k _ => by rw [m1 8 (by omega)]) (m5 29 (by omega)), by rw [m5 47 (by omega), m5 44 (by omega), q 20 (by omega)]; exact h4'⟩, ⟨nl, r, pl, h5.keep (fun j hj => q j (by omega)) (fun j hj => m1 j (by omega)) m2 (fun k hk => m5 k (by omega))⟩, h6.keep (fun j hj => q j (by omega)) (fun k _ _ => by rw [m1 8 (by omega)]) (m1 23 (by omega)) (m5 44 (by omega)), h7.keep (fun j hj => q j (by omega)) (m1 24 (by omega)) (m5 47 (by omega))⟩
/-- the same where the draft's names change -/
theorem RelB.keepN {B : Int} (H : RelB B Sc Sm) (c : ∀ j, ¬ passC j → j ≠ 74 → Sc'.1 j = Sc.1 j) (ch : ChR Sc') (m : KM Sm Sm') : RelB B Sc' Sm' := by
  obtain ⟨h1, h2, h3, ⟨n, z, s, h4, h4'⟩, ⟨nl, r, pl, h5⟩, h6, h7⟩ := H
  obtain ⟨m1, m2, m3, m4, m5⟩ := m
  have q : ∀ j, (2 ≤ j ∧ j ≤ 18) ∨ (20 ≤ j ∧ j ≤ 22) ∨ (24 ≤ j ∧ j ≤ 53) ∨ 82 ≤ j ∨ j = 0 → Sc'.1 j = Sc.1 j := fun j hj => c j (fun z => by have z : j = 1 ∨ j = 19 ∨ j = 23 ∨ (54 ≤ j ∧ j ≤ 73) ∨ (75 ≤ j ∧ j ≤ 81) := z; omega) (by omega)
  refine ⟨h1.keep (fun j hj => q j (by omega)) (m1 1 (by omega)) (m5 2 (by omega)), h2.keep (fun j a b => q j (by omega)) (by rw [q 0 (by omega)]) m3 m4 (m5 21 (by omega)), ⟨by rw [m1 9 (by omega), q 0 (by omega)]; exact h3.1, by rw [m1 9 (by omega), q 0 (by omega)]; exact h3.2.1, ch⟩, ⟨n, z, s, h4.keep (fun j hj => q j (by omega)) (fun k _ => by rw [m1 8 (by omega)]) (m5 29 (by omega)), by rw [m5 47 (by omega), m5 44 (by omega), q 20 (by omega)]; exact h4'⟩, ⟨nl, r, pl, h5.keep (fun j hj => q j (by omega)) (fun j hj => m1 j (by omega)) m2 (fun k hk => m5 k (by omega))⟩, h6.keep (fun j hj => q j (by omega)) (fun k _ _ => by rw [m1 8 (by omega)]) (m1 23 (by omega)) (m5 44 (by omega)), h7.keep (fun j hj => q j (by omega)) (m1 24 (by omega)) (m5 47 (by omega))⟩
end KEEP
