/-! THE ABSTRACT HEAP. A side (the class, or the reference) has cells 0 .. n-1 at addresses that stay; S.1 i k is the int at slot k of cell i, S.2 i k the long there. -/
abbrev S2 : Type := (Nat → Int → Int) × (Nat → Int → Int64)
/-- an int of the machine, of a whole number -/
def iz (x : Int) : Int32 := Int32.ofInt x
abbrev inR (x : Int) : Prop := -2147483648 ≤ x ∧ x ≤ 2147483647
def pI (S : S2) (i : Nat) (k : Int) (v : Int) : S2 := (fun a b => if a = i ∧ b = k then v else S.1 a b, S.2)
def pL (S : S2) (i : Nat) (k : Int) (v : Int64) : S2 := (S.1, fun a b => if a = i ∧ b = k then v else S.2 a b)
def pC (S : S2) (i j : Nat) (sp dp n : Int) : S2 := (fun a b => if a = j ∧ dp ≤ b ∧ b < dp + n then S.1 i (sp + (b - dp)) else S.1 a b, S.2)
theorem fb_bmodZ {z : Int} (h1 : -2147483648 ≤ z) (h2 : z < 2147483648) : z.bmod (2 ^ 32) = z := by
  exact Int.bmod_eq_of_le (by omega) (by omega)
theorem iz_add (x y : Int) : iz x + iz y = iz (x + y) := by
  apply Int32.toInt_inj.mp; simp only [iz, Int32.toInt_add, Int32.toInt_ofInt]; simp [Int.bmod_add_bmod, Int.add_bmod_bmod]
theorem iz_sub (x y : Int) : iz x - iz y = iz (x - y) := by
  apply Int32.toInt_inj.mp; simp only [iz, Int32.toInt_sub, Int32.toInt_ofInt]; simp [Int.bmod_sub_bmod, Int.sub_bmod_bmod]
theorem iz_mul (x y : Int) : iz x * iz y = iz (x * y) := by
  apply Int32.toInt_inj.mp; simp only [iz, Int32.toInt_mul, Int32.toInt_ofInt]; simp [Int.bmod_mul_bmod, Int.mul_bmod_bmod]
theorem iz_neg (x : Int) : -iz x = iz (-x) := by
  have h := iz_sub 0 x
  have h0 : iz 0 = 0 := rfl
  rw [h0, Int.zero_sub] at h
  rw [← h]
  apply Int32.toBitVec_inj.mp
  simp
theorem iz_toInt (x : Int32) : iz x.toInt = x := by
  exact Int32.ofInt_toInt x
theorem iz_in {x : Int} (h : inR x) : (iz x).toInt = x := by
  simp only [iz, Int32.toInt_ofInt]; exact fb_bmodZ h.1 (by have := h.2; omega)
theorem iz_lt {x y : Int} (hx : inR x) (hy : inR y) : iz x < iz y ↔ x < y := by rw [Int32.lt_iff_toInt_lt, iz_in hx, iz_in hy]
theorem iz_le {x y : Int} (hx : inR x) (hy : inR y) : iz x ≤ iz y ↔ x ≤ y := by rw [Int32.le_iff_toInt_le, iz_in hx, iz_in hy]
theorem iz_eq {x y : Int} (hx : inR x) (hy : inR y) : iz x = iz y ↔ x = y := by rw [← Int32.toInt_inj, iz_in hx, iz_in hy]
theorem inR_toInt (x : Int32) : inR x.toInt := ⟨Int32.le_toInt x, Int32.toInt_le x⟩
theorem iz_nat {x : Int} (h0 : 0 ≤ x) (h : x ≤ 2147483647) : (iz x).toNatClampNeg = x.toNat := by
  show (iz x).toInt.toNat = _; rw [iz_in ⟨by omega, h⟩]
theorem iz_vp {x : Int} {n : Nat} (h0 : 0 ≤ x) (h : x < n) (hn : n ≤ 2147483647) : vp_in (iz x) n := by
  have hr : inR x := ⟨by omega, by omega⟩
  rintro (q | q)
  · have := (iz_lt hr (y := 0) ⟨by decide, by decide⟩).mp q; omega
  · rw [iz_nat h0 (by omega)] at q; omega
/-- a cell's shape: an object (class, fields: 0 int, 1 long, 2 a reference to a cell), or an array (kind, length, elements) -/
abbrev Sh : Type := (Nat × List (Nat × Nat)) ⊕ (Nat × Nat × (Nat → Nat))
def fv (ad : Nat → Nat) (S : S2) (i k : Nat) (f : Nat × Nat) : Value := match f with
  | (0, _) => .int (iz (S.1 i k))
  | (1, _) => .long (S.2 i k)
  | (_, j) => .ref (ad j)
def fvs (ad : Nat → Nat) (S : S2) (i : Nat) : Nat → List (Nat × Nat) → List Value
  | _, [] => []
  | k, f :: fs => fv ad S i k f :: fvs ad S i (k + 1) fs
def cel (cA : Nat → ClassId) (ad : Nat → Nat) (S : S2) (i : Nat) (sh : Sh) : va_E := match sh with
  | .inl (ci, fl) => .inr (ci, fvs ad S i 0 fl)
  | .inr (0, len, _) => .inl (cA 0, len, .inl (fun j => iz (S.1 i j)))
  | .inr (1, len, _) => .inl (cA 1, len, .inl (fun j => iz (S.1 i j)))
  | .inr (2, len, _) => .inl (cA 2, len, .inr (.inl (fun j => S.2 i j)))
  | .inr (k + 3, len, el) => .inl (cA (k + 3), len, .inr (.inr (.inr (.inr (fun j => some (ad (el j)))))))
def wld (cA : Nat → ClassId) (ad : Nat → Nat) (sh : Nat → Sh) (n : Nat) (S : S2) : va_W := (List.range n).map (fun i => (ad i, cel cA ad S i (sh i)))
def tysA (cA : Nat → ClassId) : List (ClassId × FieldType) := [(cA 0, .int), (cA 1, .char), (cA 2, .long), (cA 3, .object "TracePeaks$Script"), (cA 4, .object "TracePeaks$Curve")]
theorem wld_get {cA : Nat → ClassId} {ad : Nat → Nat} {sh : Nat → Sh} {n : Nat} {S : S2} {i : Nat} (h : i < n) : (wld cA ad sh n S)[i]? = some (ad i, cel cA ad S i (sh i)) := by
  simp [wld, h]
theorem wld_len {cA : Nat → ClassId} {ad : Nat → Nat} {sh : Nat → Sh} {n : Nat} {S : S2} : (wld cA ad sh n S).length = n := by simp [wld]
theorem wld_set {cA : Nat → ClassId} {ad : Nat → Nat} {sh : Nat → Sh} {n : Nat} {S S' : S2} {i : Nat} {e : va_E} (he : cel cA ad S' i (sh i) = e) (ho : ∀ j, j ≠ i → cel cA ad S' j (sh j) = cel cA ad S j (sh j)) : (wld cA ad sh n S).set i (ad i, e) = wld cA ad sh n S' := by
  apply List.ext_getElem?
  intro j
  rw [List.getElem?_set]
  by_cases hj : i = j
  · subst hj
    by_cases hn : i < n
    · rw [if_pos rfl, if_pos (by rw [wld_len]; exact hn), wld_get (S := S') hn, he]
    · simp [wld_len, hn, wld]
  · simp only [hj, if_false]
    by_cases hn : j < n
    · rw [wld_get hn, wld_get hn, ho j (fun h => hj h.symm)]
    · simp [wld, hn]
theorem fvs_get {ad : Nat → Nat} {S : S2} {i : Nat} : ∀ (fl : List (Nat × Nat)) (k0 k : Nat) {f : Nat × Nat}, fl[k]? = some f → (fvs ad S i k0 fl)[k]? = some (fv ad S i (k0 + k) f)
  | [], _, k, f, h => by simp at h
  | g :: fl, k0, 0, f, h => by simp at h; subst h; simp [fvs]
  | g :: fl, k0, k + 1, f, h => by
    have h1 : fl[k]? = some f := by simpa using h
    have h2 := fvs_get (ad := ad) (S := S) (i := i) fl (k0 + 1) k h1
    simp only [fvs, List.getElem?_cons_succ, h2]
    rw [show k0 + 1 + k = k0 + (k + 1) by omega]
theorem fvs_len {ad : Nat → Nat} {S : S2} {i : Nat} : ∀ (fl : List (Nat × Nat)) (k0 : Nat), (fvs ad S i k0 fl).length = fl.length
  | [], _ => rfl
  | g :: fl, k0 => by simp [fvs, fvs_len fl (k0 + 1)]
theorem fv_pI_ne {ad : Nat → Nat} {S : S2} {i k a b : Nat} {v : Int} {f : Nat × Nat} (h : ¬ (a = i ∧ b = k)) : fv ad (pI S i k v) a b f = fv ad S a b f := by
  have h2 : ¬ (a = i ∧ (b : Int) = (k : Int)) := fun q => h ⟨q.1, by omega⟩
  unfold fv pI; split <;> simp only [if_neg h2]
theorem fvs_pI_lt {ad : Nat → Nat} {S : S2} {i k : Nat} {v : Int} : ∀ (fl : List (Nat × Nat)) (k0 : Nat), k < k0 → fvs ad (pI S i k v) i k0 fl = fvs ad S i k0 fl
  | [], _, _ => rfl
  | g :: fl, k0, h => by
    simp only [fvs]
    rw [fvs_pI_lt fl (k0 + 1) (by omega), fv_pI_ne (by omega)]
theorem fvs_pI {ad : Nat → Nat} {S : S2} {i : Nat} {v : Int} : ∀ (fl : List (Nat × Nat)) (k0 k : Nat) {z : Nat}, fl[k]? = some (0, z) → fvs ad (pI S i ((k0 + k : Nat) : Int) v) i k0 fl = (fvs ad S i k0 fl).set k (.int (iz v))
  | [], _, k, z, h => by simp at h
  | g :: fl, k0, 0, z, h => by
    simp at h; subst h
    simp only [fvs, List.set_cons_zero, Nat.add_zero]
    rw [fvs_pI_lt fl (k0 + 1) (by omega)]
    simp [fv, pI]
  | g :: fl, k0, k + 1, z, h => by
    have h1 : fl[k]? = some (0, z) := by simpa using h
    simp only [fvs, List.set_cons_succ]
    rw [fv_pI_ne (by omega), show k0 + (k + 1) = k0 + 1 + k by omega, fvs_pI fl (k0 + 1) k h1]
theorem fv_pL_ne {ad : Nat → Nat} {S : S2} {i k a b : Nat} {v : Int64} {f : Nat × Nat} (h : ¬ (a = i ∧ b = k)) : fv ad (pL S i k v) a b f = fv ad S a b f := by
  have h2 : ¬ (a = i ∧ (b : Int) = (k : Int)) := fun q => h ⟨q.1, by omega⟩
  unfold fv pL; split <;> simp only [if_neg h2]
theorem fvs_pL_lt {ad : Nat → Nat} {S : S2} {i k : Nat} {v : Int64} : ∀ (fl : List (Nat × Nat)) (k0 : Nat), k < k0 → fvs ad (pL S i k v) i k0 fl = fvs ad S i k0 fl
  | [], _, _ => rfl
  | g :: fl, k0, h => by
    simp only [fvs]
    rw [fvs_pL_lt fl (k0 + 1) (by omega), fv_pL_ne (by omega)]
theorem fvs_pL {ad : Nat → Nat} {S : S2} {i : Nat} {v : Int64} : ∀ (fl : List (Nat × Nat)) (k0 k : Nat) {z : Nat}, fl[k]? = some (1, z) → fvs ad (pL S i ((k0 + k : Nat) : Int) v) i k0 fl = (fvs ad S i k0 fl).set k (.long v)
  | [], _, k, z, h => by simp at h
  | g :: fl, k0, 0, z, h => by
    simp at h; subst h
    simp only [fvs, List.set_cons_zero, Nat.add_zero]
    rw [fvs_pL_lt fl (k0 + 1) (by omega)]
    simp [fv, pL]
  | g :: fl, k0, k + 1, z, h => by
    have h1 : fl[k]? = some (1, z) := by simpa using h
    simp only [fvs, List.set_cons_succ]
    rw [fv_pL_ne (by omega), show k0 + (k + 1) = k0 + 1 + k by omega, fvs_pL fl (k0 + 1) k h1]
theorem fvs_cong {ad : Nat → Nat} {S S' : S2} {i : Nat} (h1 : S'.1 i = S.1 i) (h2 : S'.2 i = S.2 i) : ∀ (fl : List (Nat × Nat)) (k0 : Nat), fvs ad S' i k0 fl = fvs ad S i k0 fl
  | [], _ => rfl
  | g :: fl, k0 => by
    simp only [fvs]
    rw [fvs_cong h1 h2 fl (k0 + 1)]
    congr 1
    unfold fv; split <;> simp [h1, h2]
theorem cel_cong {cA : Nat → ClassId} {ad : Nat → Nat} {S S' : S2} {i : Nat} {sh : Sh} (h1 : S'.1 i = S.1 i) (h2 : S'.2 i = S.2 i) : cel cA ad S' i sh = cel cA ad S i sh := by
  unfold cel; split <;> simp [fvs_cong h1 h2, h1, h2]
theorem pI_row {S : S2} {i : Nat} {k : Int} {j : Nat} {v : Int} (h : j ≠ i) : (pI S i k v).1 j = S.1 j := by funext b; simp [pI, h]
theorem pI_same {S : S2} {i : Nat} {x v : Int} (h0 : 0 ≤ x) (h : x ≤ 2147483647) : (fun j : Nat => iz ((pI S i x v).1 i j)) = upd (fun j : Nat => iz (S.1 i j)) (iz x).toNatClampNeg (iz v) := by
  funext b
  rw [iz_nat h0 h]
  by_cases hb : (b : Int) = x
  · subst hb
    simp [pI, upd]
  · have hb2 : ¬ b = x.toNat := by omega
    simp [pI, upd, hb, hb2]
theorem pL_row {S : S2} {i : Nat} {k : Int} {j : Nat} {v : Int64} (h : j ≠ i) : (pL S i k v).2 j = S.2 j := by funext b; simp [pL, h]
theorem pL_same {S : S2} {i : Nat} {x : Int} {v : Int64} (h0 : 0 ≤ x) (h : x ≤ 2147483647) : (fun j : Nat => (pL S i x v).2 i j) = vp_updL (fun j : Nat => S.2 i j) (iz x).toNatClampNeg v := by
  funext b
  rw [iz_nat h0 h]
  by_cases hb : (b : Int) = x
  · subst hb
    simp [pL, vp_updL]
  · have hb2 : ¬ b = x.toNat := by omega
    simp [pL, vp_updL, hb, hb2]
theorem pC_row {S : S2} {i d j : Nat} {sp dp n : Int} (h : j ≠ d) : (pC S i d sp dp n).1 j = S.1 j := by funext b; simp [pC, h]
theorem pC_same {S : S2} {i d : Nat} {sp dp n : Int} (h1 : 0 ≤ sp) (h2 : 0 ≤ dp) (h3 : 0 ≤ n) : (fun j : Nat => iz ((pC S i d sp dp n).1 d j)) = va_cpy (fun j : Nat => iz (S.1 i j)) (fun j : Nat => iz (S.1 d j)) sp.toNat dp.toNat n.toNat := by
  funext b
  by_cases hb : dp ≤ (b : Int) ∧ (b : Int) < dp + n
  · have hb2 : dp.toNat ≤ b ∧ b < dp.toNat + n.toNat := by omega
    simp only [pC, va_cpy, hb, hb2, and_self, if_true]
    have e : sp + ((b : Int) - dp) = ((sp.toNat + (b - dp.toNat) : Nat) : Int) := by omega
    rw [e]
  · have hb2 : ¬ (dp.toNat ≤ b ∧ b < dp.toNat + n.toNat) := by omega
    simp only [pC, va_cpy, hb, hb2, and_false, if_false]
/-! THE SIDE, AND WHAT HOLDS ALL ALONG A METHOD -/
abbrev XT : Type := va_G × (Nat → ClassId) × (Nat → Nat)
abbrev ZT : Type := (Nat → Prop) → State → Heap → Prop
def XW (X : XT) (sh : Nat → Sh) (n : Nat) (S : S2) : va_W := wld X.2.1 X.2.2 sh n S
def XA (X : XT) (n sz : Nat) : Nat → Prop := fun q => (∃ i, i < n ∧ q = X.2.2 i) ∨ sz ≤ q
def XInj (X : XT) (n : Nat) : Prop := ∀ i j, i < n → j < n → X.2.2 i = X.2.2 j → i = j
def XK (X : XT) (U : State) : Prop := va_K X.1 vwCl (tysA X.2.1) U
def ZOK (Z : ZT) : Prop := (∀ (A : Nat → Prop) (s U : State) (H : Heap), s.WarmedH U.vm → Z A s H → Z A U H) ∧ (∀ (A : Nat → Prop) (U : State) (H H1 : Heap), (∀ a : Nat, a < H.size → ¬ A a → H1[a]? = H[a]?) → Z A U H → Z A U H1) ∧ (∀ (A B : Nat → Prop) (U : State) (H : Heap), (∀ q, B q → A q) → Z A U H → Z B U H) ∧ (∀ (A : Nat → Prop) (U : State) (H : Heap) (g : JFrame) (mk : MethodId) (a : Array Value), Z A U H → Z A (U.calling g mk a) H)
def Pre (X : XT) (sh : Nat → Sh) (n : Nat) (Z : ZT) (S : S2) (sz : Nat) : State → Prop := fun U => U.heap.size = sz ∧ va_P X.1 vwCl (XW X sh n S) U.heap ∧ XK X U ∧ Z (XA X n sz) U U.heap
abbrev Post (X : XT) (sh : Nat → Sh) (n : Nat) (S : S2) : Unit → State → Prop := fun _ t => va_P X.1 vwCl (XW X sh n S) t.heap
/-- a method that answers an int (or a boolean, a char): o = (the answer, the heap behind it) -/
def MI (l : Launch) (X : XT) (sh : Nat → Sh) (n : Nat) (Z : ZT) (y : MethodName) (cc : ByteArray) (maxL : Nat) (ret : Option FieldType) (rm : Room) (av : List Value) (S : S2) (o : Int × S2) : Prop :=
  ∀ sz, Met l y (.code y cc maxL ret :: UW) rm (va_Pc av (Pre X sh n Z S sz)) (va_Qi (fun r (_ : Unit) => r = iz o.1) (Post X sh n o.2) (XA X n sz)) 0 0 (XA X n sz)
def ML (l : Launch) (X : XT) (sh : Nat → Sh) (n : Nat) (Z : ZT) (y : MethodName) (cc : ByteArray) (maxL : Nat) (ret : Option FieldType) (rm : Room) (av : List Value) (S : S2) (o : Int64 × S2) : Prop :=
  ∀ sz, Met l y (.code y cc maxL ret :: UW) rm (va_Pc av (Pre X sh n Z S sz)) (va_Ql (fun r (_ : Unit) => r = o.1) (Post X sh n o.2) (XA X n sz)) 0 0 (XA X n sz)
def MV (l : Launch) (X : XT) (sh : Nat → Sh) (n : Nat) (Z : ZT) (y : MethodName) (cc : ByteArray) (maxL : Nat) (ret : Option FieldType) (rm : Room) (av : List Value) (S : S2) (o : S2) : Prop :=
  ∀ sz, Met l y (.code y cc maxL ret :: UW) rm (va_Pc av (Pre X sh n Z S sz)) (va_Qv (fun (_ : Unit) => True) (Post X sh n o) (XA X n sz)) 0 0 (XA X n sz)
/-- a method that answers a cell that stands, at ra -/
def MR (l : Launch) (X : XT) (sh : Nat → Sh) (n : Nat) (Z : ZT) (y : MethodName) (cc : ByteArray) (maxL : Nat) (ret : Option FieldType) (rm : Room) (av : List Value) (S : S2) (ra : Nat) (o : S2) : Prop :=
  ∀ sz, Met l y (.code y cc maxL ret :: UW) rm (va_Pc av (Pre X sh n Z S sz)) (va_Qr (fun (_ : Unit) => True) (fun _ a t => a = ra ∧ va_P X.1 vwCl (XW X sh n o) t.heap) (XA X n sz)) 0 0 (XA X n sz)
def CX (p : Program) (s : State) (m : MethodId) (args : Array Value) (meth : Method) (c : Code) (cc : ByteArray) (nL : Nat) (own : String) (ret : Option FieldType) (X : XT) (n : Nat) (Z : ZT) : Prop :=
  CallFix p m c cc nL s args UW own ∧ meth.locks = false ∧ meth.sig.returnType = ret ∧ XInj X n ∧ XK X s ∧ Z (XA X n s.heap.size) s s.heap ∧ ZOK Z
def WH (X : XT) (sh : Nat → Sh) (n : Nat) (s : State) (S : S2) (H : Heap) (locs : List Loc) : Prop := va_P X.1 vwCl (XW X sh n S) H ∧ va_S (XA X n s.heap.size) s.heap H locs
def ClsOK (ci : Nat) (C : String) (T : u_T) (N : Nat) (ty0 : Nat → FieldType) : Prop := vwCl[ci]? = some (C, T, N) ∧ (∀ w ∈ u_ws C T N, w ∈ UW) ∧ (∀ k, k < N → parseFieldDescriptor (T k).2.2.1 = some (ty0 k)) ∧ (∀ a, a < N → ∀ b, b < N → a ≠ b → (T a).2.1 ≠ (T b).2.1)
theorem X_D {X : XT} {sh : Nat → Sh} {n sz : Nat} {S : S2} (h : XInj X n) : va_D (XA X n sz) (XW X sh n S) := by
  refine ⟨fun i j p q hi hj e => ?_, fun k q hk => ?_⟩
  · have h1 : i < n := by
      have := (List.getElem?_eq_some_iff.mp hi).1; rwa [XW, wld_len] at this
    have h2 : j < n := by
      have := (List.getElem?_eq_some_iff.mp hj).1; rwa [XW, wld_len] at this
    rw [XW, wld_get h1] at hi; rw [XW, wld_get h2] at hj
    cases hi; cases hj
    exact h i j h1 h2 e
  · have h1 : k < n := by
      have := (List.getElem?_eq_some_iff.mp hk).1; rwa [XW, wld_len] at this
    rw [XW, wld_get h1] at hk
    cases hk
    exact Or.inl ⟨k, h1, rfl⟩
theorem X_A {X : XT} {n sz : Nat} : ∀ q : Nat, sz ≤ q → XA X n sz q := fun _ h => Or.inr h
/-! THE PROGRAM'S TEXT: what a step does to the heap; none: it isn't told -/
def gI {α : Type} (S : S2) (i : Nat) (k : Int) (K : Int → Option α) : Option α := K (S.1 i k)
def gL {α : Type} (S : S2) (i : Nat) (k : Int) (K : Int64 → Option α) : Option α := K (S.2 i k)
def uI {α : Type} (S : S2) (i : Nat) (k : Int) (v : Int) (K : S2 → Option α) : Option α := K (pI S i k v)
def uZ {α : Type} (S : S2) (i : Nat) (k : Int) (v : Int) (K : S2 → Option α) : Option α := if v = 0 ∨ v = 1 then K (pI S i k v) else none
def uL {α : Type} (S : S2) (i : Nat) (k : Int) (v : Int64) (K : S2 → Option α) : Option α := K (pL S i k v)
def aI {α : Type} (S : S2) (i : Nat) (n x : Int) (K : Int → Option α) : Option α := if 0 ≤ x ∧ x < n then K (S.1 i x) else none
def aL {α : Type} (S : S2) (i : Nat) (n x : Int) (K : Int64 → Option α) : Option α := if 0 ≤ x ∧ x < n then K (S.2 i x) else none
def aR {α : Type} (n x : Int) (K : Nat → Option α) : Option α := if 0 ≤ x ∧ x < n then K x.toNat else none
def sI {α : Type} (S : S2) (i : Nat) (n x v : Int) (K : S2 → Option α) : Option α := if 0 ≤ x ∧ x < n then K (pI S i x v) else none
def sC {α : Type} (S : S2) (i : Nat) (n x v : Int) (K : S2 → Option α) : Option α := if (0 ≤ x ∧ x < n) ∧ 0 ≤ v ∧ v < 65536 then K (pI S i x v) else none
def sL {α : Type} (S : S2) (i : Nat) (n x : Int) (v : Int64) (K : S2 → Option α) : Option α := if 0 ≤ x ∧ x < n then K (pL S i x v) else none
/-- System.arraycopy of n places between two rows of n0, n1 -/
def cpI {α : Type} (S : S2) (i j : Nat) (n0 n1 sp dp n : Int) (K : S2 → Option α) : Option α := if 0 ≤ sp ∧ 0 ≤ dp ∧ 0 ≤ n ∧ sp + n ≤ n0 ∧ dp + n ≤ n1 then K (pC S i j sp dp n) else none
def cpC {α : Type} (S : S2) (i j : Nat) (n0 n1 sp dp n : Int) (K : S2 → Option α) : Option α := if (0 ≤ sp ∧ 0 ≤ dp ∧ 0 ≤ n ∧ sp + n ≤ n0 ∧ dp + n ≤ n1) ∧ ∀ q : Nat, q < n.toNat → 0 ≤ S.1 i (sp + q) ∧ S.1 i (sp + q) < 65536 then K (pC S i j sp dp n) else none
/-- two ints are compared: both are ints of the machine -/
def cI {α : Type} (x y : Int) (K : Option α) : Option α := if inR x ∧ inR y then K else none
def dvI {α : Type} (x y : Int) (K : Int → Option α) : Option α := if inR x ∧ 0 < y ∧ y ≤ 2147483647 then K (if 0 ≤ x then x / y else -(-x / y)) else none
def rmI {α : Type} (x y : Int) (K : Int → Option α) : Option α := if inR x ∧ 0 < y ∧ y ≤ 2147483647 then K (if 0 ≤ x then x % y else -(-x % y)) else none
def mxI {α : Type} (x y : Int) (K : Int → Option α) : Option α := if inR x ∧ inR y then K (max x y) else none
def mnI {α : Type} (x y : Int) (K : Int → Option α) : Option α := if inR x ∧ inR y then K (min x y) else none
def abI {α : Type} (x : Int) (K : Int → Option α) : Option α := if inR x then K (max x (-x)) else none
def nzL {α : Type} (y : Int64) (K : Option α) : Option α := if y = 0 then none else K
def bI {α β : Type} (x : Option (β × S2)) (K : β → S2 → Option α) : Option α := match x with
  | none => none
  | some (r, S) => K r S
def bV {α : Type} (x : Option S2) (K : S2 → Option α) : Option α := match x with
  | none => none
  | some S => K S
/-- bits: ints of the machine -/
def bz (x : Int32) : Int := x.toInt
theorem iz_bz (x : Int32) : iz (bz x) = x := iz_toInt x
theorem ite_some {α : Type} {c : Prop} [Decidable c] {a b : Option α} {o : α} (h : (if c then a else b) = some o) : (c ∧ a = some o) ∨ (¬ c ∧ b = some o) := by
  by_cases hc : c
  · rw [if_pos hc] at h; exact Or.inl ⟨hc, h⟩
  · rw [if_neg hc] at h; exact Or.inr ⟨hc, h⟩
theorem ite_none {α : Type} {c : Prop} [Decidable c] {a : Option α} {o : α} (h : (if c then a else none) = some o) : c ∧ a = some o := by
  by_cases hc : c
  · rw [if_pos hc] at h; exact ⟨hc, h⟩
  · rw [if_neg hc] at h; cases h
theorem nzL_some {α : Type} {y : Int64} {a : Option α} {o : α} (h : nzL y a = some o) : ¬ y = 0 ∧ a = some o := by
  unfold nzL at h
  by_cases hc : y = 0
  · rw [if_pos hc] at h; cases h
  · rw [if_neg hc] at h; exact ⟨hc, h⟩
theorem bI_some {α β : Type} {x : Option (β × S2)} {K : β → S2 → Option α} {o : α} (h : bI x K = some o) : ∃ r S, x = some (r, S) ∧ K r S = some o := by
  cases x with
  | none => cases h
  | some q => exact ⟨q.1, q.2, rfl, h⟩
theorem bV_some {α : Type} {x : Option S2} {K : S2 → Option α} {o : α} (h : bV x K = some o) : ∃ S, x = some S ∧ K S = some o := by
  cases x with
  | none => cases h
  | some q => exact ⟨q, rfl, h⟩
