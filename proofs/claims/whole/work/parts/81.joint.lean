/-! texts: both readers at one place -/
section JOINT
variable {S Sc Sm : S2} {L p f n lo hi : Int} {t : Int → Int} {w : Nat}
theorem nm_neg (h : lo < 0) : nmG t L lo f = nmG t L (-1) f ∧ nmE t L lo f = nmE t L (-1) f ∧ nmV t L lo f = nmV t L (-1) f := by
  have key : nmG t L lo f = nmG t L (-1) f := by
    by_cases m : chT t L f = 45
    · exact (if_pos ⟨h, m⟩).trans (if_pos (⟨by decide, m⟩ : nmM t L (-1) f)).symm
    · exact (if_neg (fun q => m q.2)).trans (if_neg (fun q : nmM t L (-1) f => m q.2)).symm
  have k2 : nmE t L lo f = nmE t L (-1) f := by unfold nmE; rw [key]
  have k3 : nmD t L lo f = nmD t L (-1) f := by unfold nmD; rw [key, k2]
  refine ⟨key, k2, ?_⟩
  by_cases m : chT t L f = 45
  · rw [show nmV t L lo f = -nmD t L lo f from if_pos ⟨h, m⟩, show nmV t L (-1) f = -nmD t L (-1) f from if_pos ⟨by decide, m⟩, k3]
  · rw [show nmV t L lo f = nmD t L lo f from if_neg (fun q => m q.2), show nmV t L (-1) f = nmD t L (-1) f from if_neg (fun q => m q.2), k3]
theorem nm_pos (h : 0 ≤ lo) : nmG t L lo f = f ∧ nmE t L lo f = de t L f ∧ nmV t L lo f = dcF t (de t L f - f).toNat f 0 := by
  have nm : ¬ nmM t L lo f := fun q => by have := q.1; omega
  have key : nmG t L lo f = f := if_neg nm
  have k2 : nmE t L lo f = de t L f := by unfold nmE; rw [key]
  exact ⟨key, k2, by rw [show nmV t L lo f = nmD t L lo f from if_neg nm]; unfold nmD; rw [key, k2]⟩
theorem nm_no45 (h : chT t L f ≠ 45) : nmG t L lo f = f ∧ nmE t L lo f = de t L f ∧ nmV t L lo f = dcF t (de t L f - f).toNat f 0 := by
  have nm : ¬ nmM t L lo f := fun q => h q.2
  have key : nmG t L lo f = f := if_neg nm
  have k2 : nmE t L lo f = de t L f := by unfold nmE; rw [key]
  exact ⟨key, k2, by rw [show nmV t L lo f = nmD t L lo f from if_neg nm]; unfold nmD; rw [key, k2]⟩
theorem de_no (h0 : 0 ≤ f ∧ f ≤ L) (h : ¬ (f < L ∧ isDg (t f))) : de t L f = f := by
  have d := de_in (t := t) h0.1 h0.2
  have dd := (scF_in (P := isDg) (t := t) (L - f).toNat f).2.1
  by_cases q : f < de t L f
  · exact absurd ⟨by omega, dd f (by omega) q⟩ h
  · omega
theorem nmV_in (h0 : 0 ≤ f ∧ f ≤ L) (h : nmE t L lo f - nmG t L lo f ≤ 3) : -999 ≤ nmV t L lo f ∧ nmV t L lo f ≤ 999 := by
  have g : nmG t L lo f = f ∨ (nmG t L lo f = f + 1 ∧ f < L) := by
    by_cases m : nmM t L lo f
    · refine Or.inr ⟨if_pos m, ?_⟩
      have := m.2
      unfold chT at this
      by_cases q : 0 ≤ f ∧ f < L
      · exact q.2
      · rw [if_neg q] at this; omega
    · exact Or.inl (if_neg m)
  have d := de_in (t := t) (L := L) (p := nmG t L lo f) (by omega) (by omega)
  have dd := (scF_in (P := isDg) (t := t) (L - nmG t L lo f).toNat (nmG t L lo f)).2.1
  have dc : 0 ≤ nmD t L lo f ∧ nmD t L lo f ≤ 999 := dcF_in (by unfold nmE at h ⊢; omega) (fun j a b => dd j a (by unfold nmE at b; show j < de t L (nmG t L lo f); omega))
  by_cases m : nmM t L lo f
  · rw [show nmV t L lo f = -nmD t L lo f from if_pos m]; omega
  · rw [show nmV t L lo f = nmD t L lo f from if_neg m]; omega
theorem Tok_num0 (h : TokF S L t f) (hhi : 0 ≤ hi ∧ hi ≤ 999) : (nmOK t L 0 hi f ∧ S.1 0 4 = 2 ∧ S.1 0 10 = 0 ∧ S.1 0 6 = nmV t L 0 f ∧ S.1 0 3 = nmE t L 0 f) ∨ (¬ nmOK t L 0 hi f ∧ (S.1 0 4 ≠ 2 ∨ (S.1 0 4 = 2 ∧ S.1 0 10 = 1) ∨ (S.1 0 4 = 2 ∧ S.1 0 10 = 0 ∧ ¬ (0 ≤ S.1 0 6 ∧ S.1 0 6 ≤ hi) ∧ -999 ≤ S.1 0 6 ∧ S.1 0 6 ≤ 999))) := by
  obtain ⟨h5, hf, h⟩ := h
  obtain ⟨z1, z2, z3⟩ := nm_pos (t := t) (L := L) (f := f) (lo := 0) (Int.le_refl 0)
  have none : ¬ (f < L ∧ isDg (t f)) → ¬ nmOK t L 0 hi f := fun k q => by
    have := de_no hf k
    have q := q.1
    rw [z1, z2] at q; omega
  rcases h with ⟨g, c⟩ | ⟨g, c, _⟩ | ⟨g, m, h⟩ | ⟨g, c, _⟩ | ⟨g, c⟩
  · exact Or.inr ⟨none (by omega), Or.inl (by omega)⟩
  · exact Or.inr ⟨none (fun k => by have a := g.2; have b := k.2; unfold isLt at a; unfold isDg at b; omega), Or.inl (by omega)⟩
  · by_cases q : t f = 45
    · rw [if_pos q] at m
      refine Or.inr ⟨none (fun k => by have b := k.2; unfold isDg at b; omega), ?_⟩
      rcases h with ⟨_, c, _⟩ | ⟨_, c⟩
      · exact Or.inr (Or.inl ⟨c, m⟩)
      · exact Or.inl (by omega)
    · rw [if_neg q] at m
      obtain ⟨y1, y2, y3⟩ := nm_no45 (t := t) (L := L) (f := f) (lo := -1) (by rw [chT_at hf.1 g.1]; exact q)
      rw [y1, y2, y3] at h
      rcases h with ⟨k, c, d, e⟩ | ⟨k, c⟩
      · have b := nmV_in (t := t) (lo := 0) hf (by rw [z1, z2]; exact k.2)
        rw [z3] at b
        by_cases v : 0 ≤ S.1 0 6 ∧ S.1 0 6 ≤ hi
        · refine Or.inl ⟨⟨by rw [z1, z2]; exact k.1, by rw [z1, z2]; exact k.2, by rw [z3, ← e]; exact v.1, by rw [z3, ← e]; exact v.2⟩, c, m, by rw [z3]; exact e, by rw [z2]; exact d⟩
        · refine Or.inr ⟨fun o => v ?_, Or.inr (Or.inr ⟨c, m, v, by rw [e]; exact b.1, by rw [e]; exact b.2⟩)⟩
          have o := o.2.2
          rw [z3, ← e] at o; exact o
      · refine Or.inr ⟨fun o => k ?_, Or.inl (by omega)⟩
        have o1 := o.1
        have o2 := o.2.1
        rw [z1, z2] at o1 o2
        exact ⟨o1, o2⟩
  · exact Or.inr ⟨none (fun k => by have a := g.2; have b := k.2; unfold isDg at b; omega), Or.inl (by omega)⟩
  · exact Or.inr ⟨none (fun k => g.2.2.1 k.2), Or.inl (by omega)⟩
theorem Tok_num9 (h : TokF S L t f) : (nmOK t L (-999) 999 f ∧ S.1 0 4 = 2 ∧ S.1 0 6 = nmV t L (-999) f ∧ S.1 0 3 = nmE t L (-999) f ∧ -999 ≤ S.1 0 6 ∧ S.1 0 6 ≤ 999) ∨ (¬ nmOK t L (-999) 999 f ∧ S.1 0 4 ≠ 2) := by
  obtain ⟨h5, hf, h⟩ := h
  obtain ⟨z1, z2, z3⟩ := nm_neg (t := t) (L := L) (f := f) (lo := -999) (by decide)
  have none : ¬ (f < L ∧ isDg (t f)) → ¬ (f < L ∧ t f = 45) → ¬ nmOK t L (-999) 999 f := fun k k2 q => by
    have := de_no hf k
    have n45 : chT t L f ≠ 45 := fun e => by
      unfold chT at e
      by_cases g : 0 ≤ f ∧ f < L
      · rw [if_pos g] at e; exact k2 ⟨g.2, e⟩
      · rw [if_neg g] at e; omega
    obtain ⟨y1, y2, y3⟩ := nm_no45 (t := t) (L := L) (f := f) (lo := -999) n45
    have q := q.1
    rw [y1, y2] at q; omega
  rcases h with ⟨g, c⟩ | ⟨g, c, _⟩ | ⟨g, m, h⟩ | ⟨g, c, _⟩ | ⟨g, c⟩
  · exact Or.inr ⟨none (by omega) (by omega), by omega⟩
  · exact Or.inr ⟨none (fun k => by have a := g.2; have b := k.2; unfold isLt at a; unfold isDg at b; omega) (fun k => by have a := g.2; have b := k.2; unfold isLt at a; omega), by omega⟩
  · rcases h with ⟨k, c, d, e⟩ | ⟨k, c⟩
    · have b := nmV_in (t := t) (lo := -1) hf k.2
      exact Or.inl ⟨⟨by rw [z1, z2]; exact k.1, by rw [z1, z2]; exact k.2, by rw [z3]; exact b.1, by rw [z3]; exact b.2⟩, c, by rw [z3]; exact e, by rw [z2]; exact d, by rw [e]; exact b.1, by rw [e]; exact b.2⟩
    · refine Or.inr ⟨fun o => k ?_, by omega⟩
      have o1 := o.1
      have o2 := o.2.1
      rw [z1, z2] at o1 o2
      exact ⟨o1, o2⟩
  · exact Or.inr ⟨none (fun k => by have a := g.2; have b := k.2; unfold isDg at b; omega) (fun k => by have a := g.2; have b := k.2; omega), by omega⟩
  · exact Or.inr ⟨none (fun k => g.2.2.1 k.2) (fun k => g.2.2.2.1 k.2), by omega⟩
/-- nothing was found wrong as far as p -/
def JT (Sc Sm : S2) (L : Int) (t : Int → Int) (p : Int) : Prop := RdT Sc L t ∧ RdM Sm L t ∧ (0 ≤ p ∧ p ≤ L) ∧ Sc.1 1 1 = p ∧ Sc.1 1 2 = -1 ∧ TokF Sm L t (bk t L p) ∧ Sm.1 0 8 = -1
/-- the fault is at q -/
def JF (Sc Sm : S2) (L q : Int) : Prop := (0 ≤ q ∧ q ≤ L) ∧ Sc.1 1 2 = q ∧ Sm.1 0 8 = q
abbrev kB : Int → Prop := fun k => (3 ≤ k ∧ k ≤ 8) ∨ k = 10
theorem bad_of (N : Nat) (h8 : Sm.1 0 8 = -1) (h5 : Sm.1 0 5 = f) : f_X11_bad N Sm = some (pI Sm 0 8 f) := by
  unfold f_X11_bad gI
  dsimp only
  rw [h8, h5, cI_of (by omega) (by omega) (by omega) (by omega), if_pos rfl]; rfl
theorem badw_of (N : Nat) {q : Int} (hq : 0 ≤ q ∧ q ≤ 400) (h8 : Sm.1 0 8 = q) : f_X11_bad N Sm = some (pI Sm 0 8 q) := by
  unfold f_X11_bad gI
  dsimp only
  rw [h8, cI_of (by omega) (by omega) (by omega) (by omega), if_neg (by omega)]; rfl
theorem nextJ (N : Nat) (h : RdM Sm L t) (e : Sm.1 0 3 = p) (h0 : 0 ≤ p) (h1 : p ≤ L) (hN : 500 ≤ N) : ∃ S', f_X11_next N Sm = some S' ∧ FrT no0 kB Sm S' ∧ TokF S' L t (bk t L p) ∧ S'.1 0 8 = Sm.1 0 8 := by
  obtain ⟨S', a, b, c⟩ := nextM_of N h e h0 h1 hN
  exact ⟨S', a, b.trans FrT.refl (fun _ q => q) (fun _ q => q) (fun k q => by rcases q with q | q; exact Or.inl (by omega); exact Or.inr q) (fun _ q => q), c, b.2.1 8 (by decide)⟩
theorem nmE_in (h0 : 0 ≤ f ∧ f ≤ L) (h : 1 ≤ nmE t L lo f - nmG t L lo f) : f < nmE t L lo f ∧ nmE t L lo f ≤ L := by
  have g : nmG t L lo f = f ∨ (nmG t L lo f = f + 1 ∧ f < L) := by
    by_cases m : nmM t L lo f
    · refine Or.inr ⟨if_pos m, ?_⟩
      have := m.2
      unfold chT at this
      by_cases q : 0 ≤ f ∧ f < L
      · exact q.2
      · rw [if_neg q] at this; omega
    · exact Or.inl (if_neg m)
  have d := de_in (t := t) (L := L) (p := nmG t L lo f) (by omega) (by omega)
  unfold nmE at h ⊢
  omega
/-- a number of 0..hi on both sides -/
theorem num_both (N M : Nat) (J : JT Sc Sm L t p) (hhi : 0 ≤ hi ∧ hi ≤ 999) (hN : 500 ≤ N) (hM : 500 ≤ M) : ∃ r Sc' x Sm', f_X6_readNumber N Sc 1 0 hi = some (r, Sc') ∧ f_X11_number M Sm 0 hi = some (x, Sm') ∧ FrR kM Sc Sc' ∧ FrT no0 kB Sm Sm' ∧ (0 ≤ x ∧ x ≤ hi) ∧ ((nmOK t L 0 hi (bk t L p) ∧ r = 1 ∧ Sc'.1 1 3 = x ∧ ∃ e, p < e ∧ JT Sc' Sm' L t e) ∨ (¬ nmOK t L 0 hi (bk t L p) ∧ r = 0 ∧ JF Sc' Sm' L (bk t L p))) := by
  obtain ⟨hc, hm, hp, e1, e2, tk, e8⟩ := J
  have hL := hc.1
  have b := bk_in (t := t) hp.1 hp.2
  have b' : 0 ≤ bk t L p ∧ bk t L p ≤ L := by omega
  obtain ⟨r, Sc', c1, c2, c3⟩ := readNumberC (lo := 0) (hi := hi) N hc e1 hp.1 hp.2 (by omega) hhi hN
  have m35 : f_X11_number_35 M 0 Sm = some (0, pI Sm 0 8 (bk t L p)) := by
    unfold f_X11_number_35
    rw [bad_of M e8 tk.1]; rfl
  have fb : FrT no0 kB Sm (pI Sm 0 8 (bk t L p)) := FrT.refl.w (Or.inl (by omega))
  have main : f_X11_number M Sm 0 hi = cI (Sm.1 0 4) 2 (if Sm.1 0 4 = 2 then cI (Sm.1 0 10) 0 (if Sm.1 0 10 = 0 then bI (f_X11_in M Sm (Sm.1 0 6) 0 hi) fun v29 S29 => cI v29 0 (if v29 = 0 then (f_X11_number_35 M) 0 S29 else gI S29 0 6 fun v42 => bV (f_X11_next M S29) fun S47 => rI v42 S47) else (f_X11_number_35 M) 0 Sm) else (f_X11_number_35 M) 0 Sm) := by
    unfold f_X11_number gI
    dsimp only
    rw [e8, cI_of (by omega) (by omega) (by omega) (by omega), if_pos rfl]
  have x4 := tk.x
  rw [cI_of (by omega) (by omega) (by omega) (by omega)] at main
  rcases Tok_num0 tk hhi with ⟨ok, t4, t10, t6, t3⟩ | ⟨ok, bad⟩
  · rcases c3 with ⟨_, rfl, c4, c5, c6⟩ | ⟨k, _⟩
    · have en := nmE_in b' ok.1
      have hv := ok.2.2
      obtain ⟨Sm', n1, n2, n3, n4⟩ := nextJ M hm t3 (by omega) en.2 hM
      refine ⟨1, Sc', nmV t L 0 (bk t L p), Sm', c1, ?_, c2, n2, hv, Or.inl ⟨ok, rfl, c5, nmE t L 0 (bk t L p), by omega, hc.r c2, hm.r n2 (fun q => q) (by decide), ⟨by omega, en.2⟩, c4, by rw [c6]; exact e2, n3, by rw [n4]; exact e8⟩⟩
      rw [main, if_pos t4, t10, cI_of (by omega) (by omega) (by omega) (by omega), if_pos rfl, t6]
      unfold f_X11_in
      rw [cI_of (by omega) (by omega) (by omega) (by omega), if_neg (by omega), cI_of (by omega) (by omega) (by omega) (by omega), if_neg (by omega), rZ_of (Or.inr rfl), bI_of, cI_of (by omega) (by omega) (by omega) (by omega), if_neg (by decide)]
      unfold gI
      dsimp only
      rw [n1, t6]; rfl
    · exact absurd ok k
  · rcases c3 with ⟨k, _⟩ | ⟨_, rfl, c4⟩
    · exact absurd k ok
    · refine ⟨0, Sc', 0, pI Sm 0 8 (bk t L p), c1, ?_, c2, fb, by omega, Or.inr ⟨ok, rfl, b', c4, pI_eq⟩⟩
      rw [main]
      rcases bad with q | ⟨q, q2⟩ | ⟨q, q2, q3, q4⟩
      · rw [if_neg q]; exact m35
      · rw [if_pos q, q2, cI_of (by omega) (by omega) (by omega) (by omega), if_neg (by decide)]; exact m35
      · rw [if_pos q, q2, cI_of (by omega) (by omega) (by omega) (by omega), if_pos rfl]
        have ei : f_X11_in M Sm (Sm.1 0 6) 0 hi = some (0, Sm) := by
          unfold f_X11_in
          rw [cI_of (by omega) (by omega) (by omega) (by omega), cI_of (by omega) (by omega) (by omega) (by omega), rZ_of (Or.inl rfl), rZ_of (Or.inr rfl)]
          by_cases g : Sm.1 0 6 < 0
          · rw [if_pos g]
          · rw [if_neg g, if_pos (by omega)]
        rw [ei, bI_of, cI_of (by omega) (by omega) (by omega) (by omega), if_pos rfl]; exact m35
end JOINT
