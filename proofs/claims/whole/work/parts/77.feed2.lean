/-! feed, end on both sides -/
section FEED2
variable {S Sc Sm : S2} {B : Int} {a b c d e : Int}
def wOf (a b c d e k : Int) : Int := if k < 4 then a else if k < 8 then b else if k < 12 then c else if k < 16 then d else e
def byB (a b c d e : Int) : Int → Int := fun k => byQ (wOf a b c d e k) (k % 4)
theorem byteOf_of (N : Nat) {k : Int} (h0 : 0 ≤ k) (h1 : k < 20) : f_X11_byteOf N S a b c d e k = some (byB a b c d e k, S) := by
  have e45 : ∀ y, f_X11_byteOf_45 N k y S = some (byQ y (k % 4), S) := fun y => by
    unfold f_X11_byteOf_45
    rw [rmI_of h0 (by omega) (by omega) (by omega)]; rfl
  unfold f_X11_byteOf byB wOf
  rw [cI_of (by omega) (by omega) (by omega) (by omega)]
  by_cases g4 : k < 4
  · rw [if_neg (by omega), if_pos g4]; exact e45 a
  rw [if_pos (by omega), if_neg g4, cI_of (by omega) (by omega) (by omega) (by omega)]
  by_cases g8 : k < 8
  · rw [if_neg (by omega), if_pos g8]; exact e45 b
  rw [if_pos (by omega), if_neg g8, cI_of (by omega) (by omega) (by omega) (by omega)]
  by_cases g12 : k < 12
  · rw [if_neg (by omega), if_pos g12]; exact e45 c
  rw [if_pos (by omega), if_neg g12, cI_of (by omega) (by omega) (by omega) (by omega)]
  by_cases g16 : k < 16
  · rw [if_neg (by omega), if_pos g16]; exact e45 d
  rw [if_pos (by omega), if_neg g16]; exact e45 e
theorem byB_in (k : Int) : 0 ≤ byB a b c d e k ∧ byB a b c d e k ≤ 255 := byQ_in _ _
theorem feedN_loop : ∀ (m N : Nat) (k x : Int), 0 ≤ k → k + m = 20 → m < N → ∀ K, f_X11_feed_6 K N a b c d e x k S = K a b c d e (fld (gW (byB a b c d e)) m k x) S := by
  intro m
  induction m with
  | zero =>
    intro N k x h0 hk hN K
    obtain ⟨N, rfl⟩ : ∃ M, N = M + 1 := ⟨N - 1, by omega⟩
    rw [f_X11_feed_6, cI_of (by omega) (by omega) (by omega) (by omega), if_pos (by omega)]
    rfl
  | succ m ih =>
    intro N k x h0 hk hN K
    obtain ⟨N, rfl⟩ : ∃ M, N = M + 1 := ⟨N - 1, by omega⟩
    have r := byB_in (a := a) (b := b) (c := c) (d := d) (e := e) k
    rw [f_X11_feed_6, cI_of (by omega) (by omega) (by omega) (by omega), if_neg (by omega), byteOf_of N h0 (by omega), bI_of, cI_of (by omega) (by omega) (by omega) (by omega), fld]
    show _ = K a b c d e (fld (gW (byB a b c d e)) m (k + 1) (if byB a b c d e k = 0 then x else x + 1)) S
    by_cases g : byB a b c d e k = 0
    · rw [if_pos g, if_pos g, ← ih N (k + 1) x (by omega) (by omega) (by omega) K, f_X11_feed_35, Int.add_zero]
    · rw [if_neg g, if_neg g, ← ih N (k + 1) (x + 1) (by omega) (by omega) (by omega) K, f_X11_feed_35]
abbrev is1 : Nat → Prop := fun j => j = 1
abbrev f2 : Int → Prop := fun k => k = 2
theorem feedM_loop : ∀ (m N : Nat) (k : Int) (S : S2) (x : Int × (Int → Int)), 0 ≤ k → k + m = 20 → m < N → 0 ≤ x.1 → x.1 + fld (gW (byB a b c d e)) m k 0 ≤ 400 → TpM S x → ∃ S', (∀ K, f_X11_feed_62 K N a b c d e k S = K S') ∧ TpM S' (fld (apS (byB a b c d e)) m k x) ∧ FrM is1 f2 S S' := by
  intro m
  induction m with
  | zero =>
    intro N k S x h0 hk hN x0 hx h
    obtain ⟨N, rfl⟩ : ∃ M, N = M + 1 := ⟨N - 1, by omega⟩
    refine ⟨S, fun K => ?_, h, FrM.refl⟩
    rw [f_X11_feed_62, cI_of (by omega) (by omega) (by omega) (by omega), if_pos (by omega)]
  | succ m ih =>
    intro N k S x h0 hk hN x0 hx h
    obtain ⟨N, rfl⟩ : ∃ M, N = M + 1 := ⟨N - 1, by omega⟩
    have r := byB_in (a := a) (b := b) (c := c) (d := d) (e := e) k
    have ex := h.1
    rw [fld] at hx
    have hx : x.1 + fld (gW (byB a b c d e)) m (k + 1) (if byB a b c d e k = 0 then 0 else 0 + 1) ≤ 400 := hx
    rw [fld]
    by_cases g : byB a b c d e k = 0
    · rw [if_pos g] at hx
      obtain ⟨S', f1, f2, f3⟩ := ih N (k + 1) S x (by omega) (by omega) (by omega) x0 hx h
      refine ⟨S', fun K => ?_, by rw [show apS (byB a b c d e) x k = x from if_pos g]; exact f2, f3⟩
      rw [f_X11_feed_62, cI_of (by omega) (by omega) (by omega) (by omega), if_neg (by omega), byteOf_of N h0 (by omega), bI_of, cI_of (by omega) (by omega) (by omega) (by omega), if_pos g, f_X11_feed_109]
      exact f1 K
    · rw [if_neg g, gW_shift] at hx
      have hp := (gW_in (b := byB a b c d e) m (k + 1) 0).1
      have hA : apS (byB a b c d e) x k = (x.1 + 1, upI x.2 x.1 (byB a b c d e k)) := if_neg g
      have fr : FrM is1 f2 S (pI (pI S 1 x.1 (byB a b c d e k)) 0 2 (x.1 + 1)) := (FrM.wI (i := 1) (A := is1) FrM.refl rfl (by decide)).wF rfl
      obtain ⟨S', f1, f2, f3⟩ := ih N (k + 1) (pI (pI S 1 x.1 (byB a b c d e k)) 0 2 (x.1 + 1)) (x.1 + 1, upI x.2 x.1 (byB a b c d e k)) (by omega) (by omega) (by omega) (by show 0 ≤ x.1 + 1; omega) (by show x.1 + 1 + _ ≤ 400; omega) ⟨pI_eq, fun i u v => by
        have v : i < x.1 + 1 := v
        show (pI (pI S 1 x.1 (byB a b c d e k)) 0 2 (x.1 + 1)).1 1 i = upI x.2 x.1 (byB a b c d e k) i
        rw [pI_cell (by decide)]
        by_cases q : i = x.1
        · rw [q, pI_eq, upI_eq]
        · rw [pI_idx q, upI_ne q]; exact h.2 i u (by omega)⟩
      refine ⟨S', fun K => ?_, by rw [hA]; exact f2, fr.trans f3 (fun _ h => h) (fun _ h => h) (fun _ h => h) (fun _ h => h)⟩
      rw [f_X11_feed_62, cI_of (by omega) (by omega) (by omega) (by omega), if_neg (by omega), byteOf_of N h0 (by omega), bI_of, cI_of (by omega) (by omega) (by omega) (by omega), if_neg g]
      unfold gI uI
      dsimp only
      rw [ex, sI_of x0 (by omega), pI_cell (by decide), ex, f_X11_feed_109]
      exact f1 K
theorem apS_len {b : Int → Int} : ∀ (m : Nat) (k : Int) (x : Int × (Int → Int)), (fld (apS b) m k x).1 = x.1 + fld (gW b) m k 0
  | 0, k, x => by show x.1 = x.1 + 0; omega
  | m + 1, k, x => by
    rw [fld, fld, apS_len m (k + 1)]
    show (if b k = 0 then x else (x.1 + 1, upI x.2 x.1 (b k))).1 + _ = x.1 + fld (gW b) m (k + 1) (if b k = 0 then 0 else 0 + 1)
    by_cases g : b k = 0
    · rw [if_pos g, if_pos g]
    · rw [if_neg g, if_neg g, gW_shift]; show x.1 + 1 + _ = _; omega
theorem apS_bytes {b : Int → Int} (hb : ∀ k, 0 ≤ b k ∧ b k ≤ 255) : ∀ (m : Nat) (k : Int) (x : Int × (Int → Int)), (∀ i, 0 ≤ i → i < x.1 → 1 ≤ x.2 i ∧ x.2 i ≤ 255) → ∀ i, 0 ≤ i → i < (fld (apS b) m k x).1 → 1 ≤ (fld (apS b) m k x).2 i ∧ (fld (apS b) m k x).2 i ≤ 255
  | 0, k, x, h => h
  | m + 1, k, x, h => by
    rw [fld]
    refine apS_bytes hb m (k + 1) _ (fun i u v => ?_)
    have q := hb k
    by_cases g : b k = 0
    · rw [show apS b x k = x from if_pos g] at v ⊢; exact h i u v
    · rw [show apS b x k = (x.1 + 1, upI x.2 x.1 (b k)) from if_neg g] at v ⊢
      have v : i < x.1 + 1 := v
      show 1 ≤ upI x.2 x.1 (b k) i ∧ upI x.2 x.1 (b k) i ≤ 255
      by_cases w : i = x.1
      · rw [w, upI_eq]; omega
      · rw [upI_ne w]; exact h i u (by omega)
theorem gW20 {b : Int → Int} : fld (gW b) 20 0 0 = fld (gW b) 4 0 0 + fld (gW b) 4 4 0 + fld (gW b) 4 8 0 + fld (gW b) 4 12 0 + fld (gW b) 4 16 0 := by
  have s : ∀ (x : Int) (i : Int), fld (gW b) 4 i x = fld (gW b) 4 i 0 + x := fun x i => by
    have := gW_shift (b := b) 4 i 0 x
    rw [Int.zero_add] at this; exact this
  rw [show (20 : Nat) = 4 + (4 + (4 + (4 + 4))) from rfl, fld_add, fld_add, fld_add, fld_add]
  rw [s (fld (gW b) 4 _ (fld (gW b) 4 _ (fld (gW b) 4 _ (fld (gW b) 4 0 0)))), s (fld (gW b) 4 _ (fld (gW b) 4 _ (fld (gW b) 4 0 0))), s (fld (gW b) 4 _ (fld (gW b) 4 0 0)), s (fld (gW b) 4 0 0)]
  show fld (gW b) 4 16 0 + (fld (gW b) 4 12 0 + (fld (gW b) 4 8 0 + (fld (gW b) 4 4 0 + fld (gW b) 4 0 0))) = _
  omega
theorem TapeR.of {x : Int × (Int → Int)} (hc : TpC Sc x) (hm : TpM Sm x) (h0 : 0 ≤ x.1 ∧ x.1 ≤ 400) (hb : ∀ i, 0 ≤ i → i < x.1 → 1 ≤ x.2 i ∧ x.2 i ≤ 255) : TapeR Sc Sm := by
  refine ⟨by rw [hc.1]; exact h0, by rw [hc.1, hm.1], fun i u v => ?_⟩
  rw [hc.1] at v
  rw [hm.2 i u v, hc.2 i u v]
  exact ⟨rfl, hb i u v⟩
/-- the relation with another tape -/
theorem RelB.tape {Sc' Sm' : S2} (H : RelB B Sc Sm) (c : Fr is23T Sc Sc') (m : FrM is1 f2 Sm Sm') (t : TapeR Sc' Sm') : RelB B Sc' Sm' := by
  obtain ⟨h1, h2, h3, ⟨n, z, s, h4, h4'⟩, ⟨nl, r, pl, h5⟩, h6, h7⟩ := H
  have q : ∀ j, j ≠ 2 → j ≠ 3 → Sc'.1 j = Sc.1 j := fun j x y => c.2 j (fun w => w.elim x y)
  have qm : ∀ j, j ≠ 0 → j ≠ 1 → Sm'.1 j = Sm.1 j := fun j x y => m.2.1 j x y
  have qf : ∀ k : Int, k ≠ 2 → Sm'.1 0 k = Sm.1 0 k := fun k x => m.2.2 k x
  exact ⟨t, h2.keep (fun j a b => q j (by omega) (by omega)) (by rw [q 0 (by decide) (by decide)]) (fun _ _ => by rw [qm 6 (by decide) (by decide)]) (fun _ _ => by rw [qm 7 (by decide) (by decide)]) (qf 21 (by decide)), h3.keep (by rw [q 0 (by decide) (by decide)]) (by rw [q 0 (by decide) (by decide)]) (qm 9 (by decide) (by decide)) (q 74 (by decide) (by decide)), ⟨n, z, s, h4.keep (fun j hj => q j (by omega) (by omega)) (fun _ _ => by rw [qm 8 (by decide) (by decide)]) (qf 29 (by decide)), by rw [qf 47 (by decide), qf 44 (by decide), q 20 (by decide) (by decide)]; exact h4'⟩, ⟨nl, r, pl, h5.keep (fun j hj => q j (by omega) (by omega)) (fun j hj => qm j (by omega) (by omega)) (by rw [m.1]) (fun k hk => qf k (by omega))⟩, h6.keep (fun j hj => q j (by omega) (by omega)) (fun _ _ _ => by rw [qm 8 (by decide) (by decide)]) (qm 23 (by decide) (by decide)) (qf 44 (by decide)), h7.keep (fun j hj => q j (by omega) (by omega)) (qm 24 (by decide) (by decide)) (qf 47 (by decide))⟩
theorem feed_both (N M : Nat) (hN : 100 ≤ N) (hM : 100 ≤ M) (hB : B ≤ 50000) (H : RelB B Sc Sm) : ∃ (v : Int) (Sc' Sm' : S2), f_X10_feed N Sc a b c d e = some (v, Sc') ∧ f_X11_feed M Sm a b c d e = some (v, Sm') ∧ RelB (B + 40) Sc' Sm' := by
  obtain ⟨⟨⟨t0, t400⟩, t2, t3⟩, -⟩ := id H
  obtain ⟨W, hW⟩ : ∃ W, W = byB a b c d e := ⟨_, rfl⟩
  have w0 : ∀ q, 0 ≤ q → q < 4 → byQ a q = W (0 + q) := fun q x y => by
    rw [hW, show (0 : Int) + q = q by omega]; unfold byB wOf; rw [if_pos y, show q % 4 = q by omega]
  have w1 : ∀ q, 0 ≤ q → q < 4 → byQ b q = W (4 + q) := fun q x y => by
    rw [hW]; unfold byB wOf; rw [if_neg (by omega), if_pos (by omega), show (4 + q) % 4 = q by omega]
  have w2 : ∀ q, 0 ≤ q → q < 4 → byQ c q = W (8 + q) := fun q x y => by
    rw [hW]; unfold byB wOf; rw [if_neg (by omega), if_neg (by omega), if_pos (by omega), show (8 + q) % 4 = q by omega]
  have w3 : ∀ q, 0 ≤ q → q < 4 → byQ d q = W (12 + q) := fun q x y => by
    rw [hW]; unfold byB wOf; rw [if_neg (by omega), if_neg (by omega), if_neg (by omega), if_pos (by omega), show (12 + q) % 4 = q by omega]
  have w4 : ∀ q, 0 ≤ q → q < 4 → byQ e q = W (16 + q) := fun q x y => by
    rw [hW]; unfold byB wOf; rw [if_neg (by omega), if_neg (by omega), if_neg (by omega), if_neg (by omega), show (16 + q) % 4 = q by omega]
  have bi : ∀ (w m : Int) (S : S2), (∀ q, 0 ≤ q → q < 4 → byQ w q = W (m + q)) → f_X10_bytesIn N S w = some (fld (gW W) 4 m 0, S) := fun w m S h => by
    have := bytesIn_loop (S := S) h 4 N 0 0 (by omega) (by omega) (by omega)
    rw [show m + 0 = m by omega] at this
    exact this
  have aw : ∀ (w m : Int) (S : S2) (x : Int × (Int → Int)), (∀ q, 0 ≤ q → q < 4 → byQ w q = W (m + q)) → 0 ≤ x.1 → x.1 + fld (gW W) 4 m 0 ≤ 400 → TpC S x → ∃ S', f_X9_addWord N S 2 w = some S' ∧ TpC S' (fld (apS W) 4 m x) ∧ Fr is23T S S' := fun w m S x h x0 hx ht => by
    have := addWord_loop h 4 N 0 S x (by omega) (by omega) (by omega) x0 (by rw [show m + 0 = m by omega]; exact hx) ht
    rw [show m + 0 = m by omega] at this
    exact this
  have g20 := gW20 (b := W)
  have gi := fun m => (gW_in (b := W) 4 m 0)
  have p0 := gi 0
  have p1 := gi 4
  have p2 := gi 8
  have p3 := gi 12
  have p4 := gi 16
  obtain ⟨x, hx⟩ : ∃ x : Int × (Int → Int), x = (Sc.1 2 1, Sc.1 3) := ⟨_, rfl⟩
  have x1 : x.1 = Sc.1 2 1 := by rw [hx]
  have hc : TpC Sc x := ⟨x1.symm, fun i _ _ => by rw [hx]⟩
  have hm : TpM Sm x := ⟨by rw [x1]; exact t2, fun i u v => by rw [hx]; exact (t3 i u (by rw [x1] at v; exact v)).1⟩
  have em : ∀ y, f_X11_feed M Sm a b c d e = y ↔ f_X11_feed_44 M a b c d e (fld (gW W) 20 0 0) Sm = y := fun y => by
    unfold f_X11_feed
    rw [feedN_loop (S := Sm) 20 M 0 0 (by omega) (by omega) (by omega) (f_X11_feed_44 M), ← hW]
  have ec : ∀ y, f_X10_feed N Sc a b c d e = y ↔ cI (fld (gW W) 20 0 0) (400 - x.1) (if fld (gW W) 20 0 0 ≤ 400 - x.1 then bV (f_X9_addWord N Sc 2 a) fun S51 => bV (f_X9_addWord N S51 2 b) fun S59 => bV (f_X9_addWord N S59 2 c) fun S67 => bV (f_X9_addWord N S67 2 d) fun S76 => bV (f_X9_addWord N S76 2 e) fun S85 => gI S85 2 1 fun v92 => rI v92 S85 else rI (-1) Sc) = y := fun y => by
    unfold f_X10_feed
    rw [bi a 0 Sc w0, bI_of, bi b 4 Sc w1, bI_of, bi c 8 Sc w2, bI_of, bi d 12 Sc w3, bI_of, bi e 16 Sc w4, bI_of]
    rw [g20, x1]
    rfl
  by_cases g : x.1 + fld (gW W) 20 0 0 ≤ 400
  · have l0 := apS_len (b := W) 4 0 x
    obtain ⟨y0, hy0⟩ : ∃ y, y = fld (apS W) 4 0 x := ⟨_, rfl⟩
    obtain ⟨y1, hy1⟩ : ∃ y, y = fld (apS W) 4 4 y0 := ⟨_, rfl⟩
    obtain ⟨y2, hy2⟩ : ∃ y, y = fld (apS W) 4 8 y1 := ⟨_, rfl⟩
    obtain ⟨y3, hy3⟩ : ∃ y, y = fld (apS W) 4 12 y2 := ⟨_, rfl⟩
    obtain ⟨y4, hy4⟩ : ∃ y, y = fld (apS W) 4 16 y3 := ⟨_, rfl⟩
    rw [← hy0] at l0
    have l1 := apS_len (b := W) 4 4 y0
    rw [← hy1] at l1
    have l2 := apS_len (b := W) 4 8 y1
    rw [← hy2] at l2
    have l3 := apS_len (b := W) 4 12 y2
    rw [← hy3] at l3
    have l4 := apS_len (b := W) 4 16 y3
    rw [← hy4] at l4
    obtain ⟨S1, a1, a2, a3⟩ := aw a 0 Sc x w0 (by omega) (by omega) hc
    rw [← hy0] at a2
    obtain ⟨S2, b1, b2, b3⟩ := aw b 4 S1 y0 w1 (by omega) (by omega) a2
    rw [← hy1] at b2
    obtain ⟨S3, c1, c2, c3⟩ := aw c 8 S2 y1 w2 (by omega) (by omega) b2
    rw [← hy2] at c2
    obtain ⟨S4, d1, d2, d3⟩ := aw d 12 S3 y2 w3 (by omega) (by omega) c2
    rw [← hy3] at d2
    obtain ⟨S5, e1, e2, e3⟩ := aw e 16 S4 y3 w4 (by omega) (by omega) d2
    rw [← hy4] at e2
    have all : fld (apS W) 20 0 x = y4 := by
      rw [show (20 : Nat) = 4 + (4 + (4 + (4 + 4))) from rfl, fld_add, fld_add, fld_add, fld_add, hy4, hy3, hy2, hy1, hy0]
      rfl
    obtain ⟨M1, m1, m2, m3⟩ := feedM_loop (a := a) (b := b) (c := c) (d := d) (e := e) 20 M 0 Sm x (by omega) (by omega) (by omega) (by omega) (by rw [← hW]; exact g) hm
    rw [← hW, all] at m2
    have frC : Fr is23T Sc S5 := (((a3.trans b3 (fun _ h => h) (fun _ h => h) (C := is23T)).trans c3 (fun _ h => h) (fun _ h => h) (C := is23T)).trans d3 (fun _ h => h) (fun _ h => h) (C := is23T)).trans e3 (fun _ h => h) (fun _ h => h)
    have hby := apS_bytes (b := W) (fun k => by rw [hW]; exact byB_in k) 20 0 x (fun i u v => by rw [hx]; exact (t3 i u (by rw [x1] at v; exact v)).2)
    rw [all] at hby
    refine ⟨y4.1, S5, M1, ?_, ?_, (H.tape frC m3 (TapeR.of e2 m2 (by omega) hby)).up (by omega)⟩
    · refine (ec _).mpr ?_
      rw [cI_of (by omega) (by omega) (by omega) (by omega), if_pos (by omega), a1, bV_of, b1, bV_of, c1, bV_of, d1, bV_of, e1, bV_of]
      unfold gI
      rw [e2.1]; rfl
    · refine (em _).mpr ?_
      unfold f_X11_feed_44 gI
      dsimp only
      rw [hm.1, cI_of (by omega) (by omega) (by omega) (by omega), if_pos g, m1]
      unfold f_X11_feed_115 gI
      rw [m2.1]; rfl
  · refine ⟨-1, Sc, Sm, (ec _).mpr ?_, (em _).mpr ?_, H.up (by omega)⟩
    · rw [cI_of (by omega) (by omega) (by omega) (by omega), if_neg (by omega)]; rfl
    · unfold f_X11_feed_44 gI
      dsimp only
      rw [hm.1, cI_of (by omega) (by omega) (by omega) (by omega), if_neg g]; rfl
theorem op_feed (hB : B ≤ 50000) : Op_feed (RelB B) (RelB (B + 40)) := fun Sc Sm H a1 a2 a3 a4 a5 _ _ _ _ _ => ⟨100, 100, feed_both 100 100 (by decide) (by decide) hB H⟩
theorem end_both (N M : Nat) (hB : B ≤ 50000) (H : RelB B Sc Sm) {a1 : Int} (h1 : inR a1) : ∃ (v : Int) (Sc' Sm' : S2), f_X10_end N Sc a1 = some (v, Sc') ∧ f_X11_end M Sm a1 = some (v, Sm') ∧ RelB (B + 40) Sc' Sm' := by
  obtain ⟨⟨⟨t0, t400⟩, t2, t3⟩, -⟩ := id H
  have ha1 := h1.1
  have ha2 := h1.2
  by_cases g : 0 ≤ a1 ∧ a1 ≤ Sc.1 2 1
  · refine ⟨1, pI Sc 2 1 a1, pI Sm 0 2 a1, ?_, ?_, (H.tape (Fr.refl.pI (Or.inl rfl)) (FrM.refl.wF rfl) ⟨by rw [pI_eq]; omega, by rw [pI_eq, pI_eq], fun i u v => ?_⟩).up (by omega)⟩
    · unfold f_X10_end
      simp (disch := omega) only [gI, uI, cI_of, aI_of, sI_of, mnI_of, mxI_of, abI_of, dvI_of, rmI_of, bI_of, bV_of, rI, rV, rL, rP, rT, rZ_of, rC_of, if_pos, if_neg, if_true, if_false]
    · unfold f_X11_end
      simp (disch := omega) only [t2, in_y M, gI, uI, cI_of, aI_of, sI_of, mnI_of, mxI_of, abI_of, dvI_of, rmI_of, bI_of, bV_of, rI, rV, rL, rP, rT, rZ_of, rC_of, if_pos, if_neg, if_true, if_false]
    · rw [pI_eq] at v
      rw [pI_cell (by decide), pI_cell (by decide)]
      exact t3 i u (by omega)
  · refine ⟨0, Sc, Sm, ?_, ?_, H.up (by omega)⟩
    · unfold f_X10_end
      by_cases q : a1 < 0
      · simp (disch := omega) only [gI, uI, cI_of, aI_of, sI_of, mnI_of, mxI_of, abI_of, dvI_of, rmI_of, bI_of, bV_of, rI, rV, rL, rP, rT, rZ_of, rC_of, if_pos, if_neg, if_true, if_false]
      · simp (disch := omega) only [gI, uI, cI_of, aI_of, sI_of, mnI_of, mxI_of, abI_of, dvI_of, rmI_of, bI_of, bV_of, rI, rV, rL, rP, rT, rZ_of, rC_of, if_pos, if_neg, if_true, if_false]
    · unfold f_X11_end
      simp (disch := omega) only [t2, in_n M, gI, uI, cI_of, aI_of, sI_of, mnI_of, mxI_of, abI_of, dvI_of, rmI_of, bI_of, bV_of, rI, rV, rL, rP, rT, rZ_of, rC_of, if_pos, if_neg, if_true, if_false]
theorem op_end (hB : B ≤ 50000) : Op_end (RelB B) (RelB (B + 40)) := fun Sc Sm H a1 h1 => ⟨10, 10, end_both 10 10 hB H h1⟩
end FEED2
